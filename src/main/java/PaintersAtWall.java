import java.util.Arrays;

/**
 * Two painters at one wall, as ../shared/DOC.md tells. A PAINTING (a STONE with a PAINT) is one bit of an int:
 * 9 (PAINT - 1) + STONE. What is on a wall is a set of paintings, and so is what MAY be painted: so no search
 * makes an object, and a step of one is one look at what a painting rules out.
 */
public final class PaintersAtWall {
    public static final int BAD = -1, NO = -2, FULL = -3, NONE = -4;

    private static final int STONES = 9, PAINTS = 3, PAINTINGS = STONES * PAINTS, STONE_SET = (1 << STONES) - 1;

    private final Text text = new Text();
    private final Reader reader = new Reader();
    private final Wall wall = new Wall();
    private final Row row = new Row();
    private final Game game = new Game();
    private final Lot lot = new Lot();
    // Two plans by turns: what can not be LAID must leave the laid one as it is.
    private Plan laid = new Plan();
    private Plan spare = new Plan();

    public PaintersAtWall() {
    }

    // ---- walls

    public int write(int n, long v) {
        if (n < 1 || n > 8) {
            return BAD;
        }
        return text.add(n, v);
    }

    public int wipe() {
        return text.empty();
    }

    public int fault() {
        return reader.faultIn(text, spare);
    }

    public int lay() {
        if (reader.faultIn(text, spare) != NONE) {
            return NO;
        }
        spare.settle();
        if (spare.oldOnesClash()) {
            return NO;
        }
        Plan before = laid;
        laid = spare;
        spare = before;
        wall.begin(laid.old);
        row.empty();
        game.forget();
        return laid.stones();
    }

    public int stone(int s, int what) {
        if (!laid.hasStone(s)) {
            return BAD;
        }
        switch (what) {
            case 0:
                return (laid.shut >> s & 1) != 0 ? 9 : Plan.paintOn(wall.worn, s);
            case 1:
                return Plan.paintOn(laid.old, s) != 0 ? 1 : 0;
            case 2:
                return laid.near(1 << s);
            default:
                return BAD;
        }
    }

    public int touch(int a, int b) {
        if (!laid.hasPaint(a) || !laid.hasPaint(b)) {
            return BAD;
        }
        return laid.mayTouch(a, b) ? 1 : 0;
    }

    // ---- turns

    public int may(int s) {
        if (!laid.hasStone(s)) {
            return BAD;
        }
        return Plan.paintsAt(choicesNow(), s);
    }

    public int paint(int s, int p) {
        if (!laid.hasStone(s) || !laid.hasPaint(p)) {
            return BAD;
        }
        int painting = Plan.painting(s, p);
        if ((choicesNow() & painting) == 0) {
            return NO;
        }
        wall.put(s, painting);
        return Integer.bitCount(wall.worn);
    }

    public int rain(int n) {
        if (n < 1 || n > 3) {
            return BAD;
        }
        int takes = Math.min(n, Integer.bitCount(loose()));
        if (takes == 0) {
            return NO;
        }
        wall.washOff(takes);
        return takes;
    }

    public int pass() {
        if (choicesNow() != 0) {
            return NO;
        }
        wall.skip();
        return wall.turn;
    }

    public int undo() {
        return wall.stepBack();
    }

    // ---- told rows

    public int tell(int s, int p) {
        if (!laid.hasStone(s) || !laid.hasPaint(p)) {
            return BAD;
        }
        return row.add(Plan.painting(s, p));
    }

    public int noRow() {
        return row.empty();
    }

    public int judge() {
        return row.firstWrong(laid, wall.worn, wall.turn);
    }

    // ---- the whole wall

    public int ways() {
        return Whole.waysToFill(laid, wall.worn);
    }

    public int fewest() {
        return Whole.fewestPaints(laid, wall.worn);
    }

    public int scrape(int what) {
        if (what != 0 && what != 1) {
            return BAD;
        }
        int set = Whole.leastScraped(laid, wall.worn);
        return set == NONE || what == 1 ? set : Integer.bitCount(set);
    }

    public int matters() {
        return Whole.mattering(laid, wall.worn);
    }

    // ---- games

    public int beer(int what) {
        if (what != 0 && what != 1) {
            return BAD;
        }
        int painting = game.lowestGood(laid, Game.NOBODY, wall.worn, wall.turn);
        if (what == 1) {
            return painting;
        }
        return painting == NONE ? 0 : 1;
    }

    public int white(int d, int what) {
        if (!isPainter(d) || what != 0 && what != 1) {
            return BAD;
        }
        if (what == 1) {
            return game.lowestGood(laid, d, wall.worn, wall.turn);
        }
        return game.getsHisWill(laid, d, wall.worn, wall.turn) == (wall.turn == d) ? 1 : 0;
    }

    // ---- orders, lots

    public int orders() {
        return Past.ordersOf(laid, loose());
    }

    public int only(int painter) {
        if (!isPainter(painter)) {
            return BAD;
        }
        return Past.surelyBy(laid, loose(), painter);
    }

    public long odds(int n, int part) {
        if (n < 0 || n > 2 || part != 0 && part != 1) {
            return BAD;
        }
        return lot.chance(laid, wall.worn, wall.turn, n, part);
    }

    public int evening(int z, int what) {
        if (z < 0 || z > 9999 || what != 0 && what != 1) {
            return BAD;
        }
        return lot.draw(laid, wall.worn, wall.turn, z, what);
    }

    public int keep() {
        return wall.hold();
    }

    public int back() {
        return wall.takeHeld();
    }

    public int count(int what) {
        switch (what) {
            case 0:
                return laid.stones();
            case 1:
                return laid.paints;
            case 2:
                return wall.turn;
            case 3:
                return Integer.bitCount(wall.worn);
            case 4:
                return row.length;
            case 5:
                return wall.pastLength;
            case 6:
                return wall.heldLength;
            case 7:
                return text.length;
            case 8:
                return Integer.bitCount(loose());
            default:
                return BAD;
        }
    }

    private static boolean isPainter(int painter) {
        return painter == 0 || painter == 1;
    }

    private int choicesNow() {
        return laid.fitting(wall.worn) & laid.paintingsOf(wall.turn);
    }

    private int loose() {
        return wall.worn & ~laid.old;
    }

    private static final class Text {
        private static final int MOST = 200;

        private final byte[] bytes = new byte[MOST];
        private int length;

        int add(int n, long v) {
            if (n > MOST - length) {
                return FULL;
            }
            for (int i = n - 1; i >= 0 && length < bytes.length; i--) {
                bytes[length] = (byte) (v >>> 8 * i);
                length++;
            }
            return length;
        }

        int empty() {
            int before = length;
            length = 0;
            return before;
        }

        int at(int place) {
            return place >= 0 && place < length && place < bytes.length ? bytes[place] & 255 : -1;
        }
    }

    private static final class Plan {
        private static final int ALIKE_APART = 0b100_010_001;

        private int rows;
        private int columns;
        private int paints;
        // 3 bits for each PAINT: those that may not touch it.
        private int apart;
        private int paintsOf0;
        private int paintsOf1;
        private int old;
        private int shut;
        // What follows from the rest is worked out once a lay(), by settle(), as searches ask for it at each step.
        private int all;
        private int firstColumn;
        private int fitsAtFirst;
        private int paintingsOf0;
        private int paintingsOf1;
        private final int[] ruledOut = new int[PAINTINGS];

        Plan() {
            clear();
            settle();
        }

        void clear() {
            rows = 1;
            columns = 4;
            paints = 2;
            apart = ALIKE_APART;
            paintsOf0 = 7;
            paintsOf1 = 7;
            old = 0;
            shut = 0;
        }

        int stones() {
            return rows * columns;
        }

        boolean hasStone(int s) {
            return s >= 0 && s < stones();
        }

        boolean hasPaint(int p) {
            return p >= 1 && p <= paints;
        }

        int allPaints() {
            return (1 << paints) - 1;
        }

        int paintsOf(int painter) {
            return (painter == 0 ? paintsOf0 : paintsOf1) & allPaints();
        }

        int paintingsOf(int painter) {
            return painter == 0 ? paintingsOf0 : paintingsOf1;
        }

        void setApart(int a, int b) {
            apart |= pair(a, b) | pair(b, a);
        }

        void setTogether(int a, int b) {
            apart &= ~(pair(a, b) | pair(b, a));
        }

        boolean mayTouch(int a, int b) {
            return (apart & pair(a, b)) == 0;
        }

        void setOld(int s, int p) {
            old = withoutPaint(old, 1 << s) | painting(s, p);
            shut &= ~(1 << s);
        }

        void setShut(int s) {
            old = withoutPaint(old, 1 << s);
            shut |= 1 << s;
        }

        void settle() {
            all = (1 << stones()) - 1;
            firstColumn = 0;
            for (int i = 0; i < STONES && i < rows; i++) {
                firstColumn |= 1 << i * columns;
            }
            int takers = all & ~shut;
            fitsAtFirst = inPaints(takers, allPaints());
            paintingsOf0 = inPaints(takers, paintsOf(0));
            paintingsOf1 = inPaints(takers, paintsOf(1));
            for (int i = 0; i < ruledOut.length; i++) {
                ruledOut[i] = ruledOutBy(i % STONES, i / STONES + 1);
            }
        }

        private int ruledOutBy(int s, int p) {
            int foes = 0;
            for (int q = 1; q <= PAINTS; q++) {
                foes |= mayTouch(p, q) ? 0 : 1 << q - 1;
            }
            return inPaints(1 << s, 7) | inPaints(near(1 << s), foes);
        }

        int near(int set) {
            int lastColumn = firstColumn << columns - 1;
            int beside = (set & ~lastColumn) << 1 | (set & ~firstColumn) >> 1;
            int under = set << columns | set >> columns;
            return (beside | under) & all;
        }

        boolean oldOnesClash() {
            for (int i = 0; i < ruledOut.length; i++) {
                int painting = 1 << i;
                if ((old & painting) != 0 && (ruledOut[i] & old & ~painting) != 0) {
                    return true;
                }
            }
            return false;
        }

        int bare(int worn) {
            return all & ~shut & ~painted(worn);
        }

        int fitting(int worn) {
            int fits = fitsAtFirst;
            for (int i = 0; i < ruledOut.length; i++) {
                if ((worn >> i & 1) != 0) {
                    fits &= ~ruledOut[i];
                }
            }
            return fits;
        }

        int fittingAfter(int fits, int painting) {
            int place = Integer.bitCount(painting - 1);
            return place < ruledOut.length ? fits & ~ruledOut[place] : 0;
        }

        private static int pair(int a, int b) {
            return 1 << 3 * (a - 1) + b - 1;
        }

        static int painting(int s, int p) {
            return 1 << STONES * (p - 1) + s;
        }

        private static int inPaints(int set, int paints) {
            int found = 0;
            for (int p = 1; p <= PAINTS; p++) {
                found |= (paints >> p - 1 & 1) != 0 ? set << STONES * (p - 1) : 0;
            }
            return found;
        }

        static int stonesWith(int paintings, int p) {
            return paintings >> STONES * (p - 1) & STONE_SET;
        }

        static int painted(int worn) {
            return stonesWith(worn, 1) | stonesWith(worn, 2) | stonesWith(worn, 3);
        }

        static int withoutPaint(int worn, int set) {
            return worn & ~(set | set << STONES | set << 2 * STONES);
        }

        static int paintOn(int worn, int s) {
            int bits = paintsAt(worn, s);
            return bits == 4 ? 3 : bits;
        }

        static int paintsAt(int paintings, int s) {
            int onIt = paintings >> s;
            return onIt & 1 | (onIt >> STONES & 1) << 1 | (onIt >> 2 * STONES & 1) << 2;
        }
    }

    private static final class Reader {
        private int at;
        private int first;
        private int second;
        private boolean stoneTold;
        private boolean paintTold;

        int faultIn(Text text, Plan plan) {
            plan.clear();
            at = 0;
            stoneTold = false;
            paintTold = false;
            for (int items = 0; items < Text.MOST && at < text.length; items++) {
                int start = at;
                if (!item(text, plan)) {
                    return start;
                }
            }
            return NONE;
        }

        private boolean item(Text text, Plan plan) {
            int letter = text.at(at);
            at++;
            second = 0;
            if (letter == 'n' || letter == 'w') {
                first = number(text, ';');
            } else {
                first = number(text, ',');
                second = first < 0 ? -1 : number(text, ';');
            }
            return first >= 0 && second >= 0 && takes(letter, plan);
        }

        // A fault is told as -1, which no number of a text can be.
        private int number(Text text, int end) {
            int value = 0;
            int figures = 0;
            while (figures < 2 && isFigure(text.at(at))) {
                value = 10 * value + text.at(at) - '0';
                figures++;
                at++;
            }
            if (figures == 0 || text.at(at) != end) {
                return -1;
            }
            at++;
            return value;
        }

        private static boolean isFigure(int sign) {
            return sign >= '0' && sign <= '9';
        }

        private boolean takes(int letter, Plan plan) {
            switch (letter) {
                case 'r':
                    return takesShape(plan);
                case 'n':
                    return takesPaints(plan);
                case 'x':
                case 'm':
                    return takesPair(letter == 'x', plan);
                case 'h':
                    return takesPainter(plan);
                case 'a':
                    return takesOld(plan);
                case 'w':
                    return takesShut(plan);
                default:
                    return false;
            }
        }

        private boolean takesShape(Plan plan) {
            if (stoneTold || first < 1 || second < 1 || first * second > STONES) {
                return false;
            }
            plan.rows = first;
            plan.columns = second;
            return true;
        }

        private boolean takesPaints(Plan plan) {
            if (paintTold || first < 1 || first > PAINTS) {
                return false;
            }
            plan.paints = first;
            return true;
        }

        private boolean takesPair(boolean apart, Plan plan) {
            if (!plan.hasPaint(first) || !plan.hasPaint(second)) {
                return false;
            }
            if (apart) {
                plan.setApart(first, second);
            } else {
                plan.setTogether(first, second);
            }
            paintTold = true;
            return true;
        }

        private boolean takesPainter(Plan plan) {
            if (!isPainter(first) || (second & ~plan.allPaints()) != 0) {
                return false;
            }
            if (first == 0) {
                plan.paintsOf0 = second;
            } else {
                plan.paintsOf1 = second;
            }
            paintTold = true;
            return true;
        }

        private boolean takesOld(Plan plan) {
            if (!plan.hasStone(first) || !plan.hasPaint(second)) {
                return false;
            }
            plan.setOld(first, second);
            stoneTold = true;
            paintTold = true;
            return true;
        }

        private boolean takesShut(Plan plan) {
            if (!plan.hasStone(first)) {
                return false;
            }
            plan.setShut(first);
            stoneTold = true;
            return true;
        }
    }

    private static final class Wall {
        private static final int ORDER_BITS = 4;

        private int worn;
        private int turn;
        // The stones that have paint and are not old, 4 bits each, the last one lowest.
        private long order;
        private final long[] past = new long[8];
        private int pastLength;
        private final long[] held = new long[2];
        private int heldLength;

        void begin(int old) {
            worn = old;
            turn = 0;
            order = 0;
            pastLength = 0;
            heldLength = 0;
        }

        void put(int s, int painting) {
            noteForUndo();
            worn |= painting;
            order = order << ORDER_BITS | s;
            turn = 1 - turn;
        }

        void washOff(int stones) {
            noteForUndo();
            for (int i = 0; i < STONES && i < stones; i++) {
                int last = (int) (order & (1 << ORDER_BITS) - 1);
                worn = Plan.withoutPaint(worn, 1 << last);
                order >>>= ORDER_BITS;
            }
        }

        void skip() {
            noteForUndo();
            turn = 1 - turn;
        }

        int stepBack() {
            int last = pastLength - 1;
            if (last < 0 || last >= past.length) {
                return NO;
            }
            standAs(past[last]);
            pastLength = last;
            return last;
        }

        int hold() {
            if (heldLength < 0 || heldLength >= held.length) {
                return FULL;
            }
            held[heldLength] = packed();
            heldLength++;
            return heldLength;
        }

        int takeHeld() {
            int last = heldLength - 1;
            if (last < 0 || last >= held.length) {
                return NO;
            }
            standAs(held[last]);
            heldLength = last;
            pastLength = 0;
            return last;
        }

        private void noteForUndo() {
            if (pastLength >= past.length) {
                System.arraycopy(past, 1, past, 0, past.length - 1);
                pastLength = past.length - 1;
            }
            if (pastLength >= 0 && pastLength < past.length) {
                past[pastLength] = packed();
                pastLength++;
            }
        }

        // 36 bits of order, 1 of turn, 27 of paintings: one long holds a whole stand, so none is made anew.
        private long packed() {
            return (order << 1 | turn) << PAINTINGS | worn;
        }

        private void standAs(long packed) {
            worn = (int) (packed & (1L << PAINTINGS) - 1);
            turn = (int) (packed >>> PAINTINGS & 1);
            order = packed >>> PAINTINGS + 1;
        }
    }

    private static final class Row {
        private final int[] paintings = new int[9];
        private int length;

        int add(int painting) {
            if (length < 0 || length >= paintings.length) {
                return FULL;
            }
            paintings[length] = painting;
            length++;
            return length;
        }

        int empty() {
            int before = length;
            length = 0;
            return before;
        }

        int firstWrong(Plan plan, int worn, int turn) {
            int fits = plan.fitting(worn);
            int painter = turn;
            for (int i = 0; i < length && i < paintings.length; i++) {
                if ((fits & plan.paintingsOf(painter) & paintings[i]) == 0) {
                    return i;
                }
                fits = plan.fittingAfter(fits, paintings[i]);
                painter = 1 - painter;
            }
            return NONE;
        }
    }

    private static final class Whole {
        // 9 stones can be filled in 3^9 ways at most.
        private static final int MORE_THAN_ALL = 20000;

        static int waysToFill(Plan plan, int worn) {
            return fillings(plan, plan.fitting(worn), plan.bare(worn), MORE_THAN_ALL, 0);
        }

        private static boolean canBeDone(Plan plan, int worn) {
            return fillings(plan, plan.fitting(worn), plan.bare(worn), 1, 0) != 0;
        }

        // Who asks only whether there is a way says that 1 is enough, and the search ends there.
        private static int fillings(Plan plan, int fits, int bare, int enough, int depth) {
            if (bare == 0) {
                return 1;
            }
            if (depth >= STONES || (bare & ~Plan.painted(fits)) != 0) {
                return 0;
            }
            int stone = bare & -bare;
            int found = 0;
            for (int p = 1; p <= PAINTS && found < enough; p++) {
                int painting = stone << STONES * (p - 1);
                if ((fits & painting) != 0) {
                    found += fillings(plan, plan.fittingAfter(fits, painting), bare & ~stone, enough - found, depth + 1);
                }
            }
            return found;
        }

        static int fewestPaints(Plan plan, int worn) {
            int fits = plan.fitting(worn);
            int bare = plan.bare(worn);
            int used = paintsIn(worn);
            for (int many = 0; many <= PAINTS; many++) {
                for (int paints = 0; paints <= plan.allPaints(); paints++) {
                    boolean right = Integer.bitCount(paints) == many && (used & ~paints) == 0;
                    if (right && fillings(plan, fits & Plan.inPaints(STONE_SET, paints), bare, 1, 0) != 0) {
                        return many;
                    }
                }
            }
            return NONE;
        }

        private static int paintsIn(int worn) {
            int found = 0;
            for (int p = 1; p <= PAINTS; p++) {
                found |= Plan.stonesWith(worn, p) != 0 ? 1 << p - 1 : 0;
            }
            return found;
        }

        static int leastScraped(Plan plan, int worn) {
            int loose = Plan.painted(worn & ~plan.old);
            for (int many = 0; many <= Integer.bitCount(loose); many++) {
                for (int set = 0; set <= loose; set++) {
                    boolean fits = Integer.bitCount(set) == many && (set & ~loose) == 0;
                    if (fits && canBeDone(plan, Plan.withoutPaint(worn, set))) {
                        return set;
                    }
                }
            }
            return NONE;
        }

        static int mattering(Plan plan, int worn) {
            if (canBeDone(plan, worn)) {
                return 0;
            }
            int loose = Plan.painted(worn & ~plan.old);
            int found = 0;
            for (int s = 0; s < STONES; s++) {
                int one = 1 << s;
                if ((loose & one) != 0 && canBeDone(plan, Plan.withoutPaint(worn, one))) {
                    found |= one;
                }
            }
            return found;
        }
    }

    // Both games are one search, as in both the one has his will where the other one has not.
    private static final class Game {
        // In the game for the beer neither cares what the wall is at the end.
        static final int NOBODY = 2;

        private static final int UNKNOWN = 0, LOST = 1, WON = 2, CELL_BITS = 12;

        // A cell: 27 bits of what fits, 1 of turn, 2 of whose wish, 2 of answer. What fits tells enough, as the rest of
        // a wall changes neither game. A new answer pushes an old one out, which costs time alone: a cell for each wall
        // would cost more room than the room of a run has for many objects.
        private final int[] known = new int[1 << CELL_BITS];

        // What is known holds for the laid wall alone.
        void forget() {
            Arrays.fill(known, 0);
        }

        boolean getsHisWill(Plan plan, int wisher, int worn, int turn) {
            return wins(plan, wisher, fittingForSome(plan, worn), plan.bare(worn), turn, 0);
        }

        int lowestGood(Plan plan, int wisher, int worn, int turn) {
            int fits = fittingForSome(plan, worn);
            int bare = plan.bare(worn);
            int choices = fits & plan.paintingsOf(turn);
            for (int s = 0; s < STONES; s++) {
                for (int p = 1; p <= PAINTS; p++) {
                    int painting = Plan.painting(s, p);
                    if ((choices & painting) != 0
                            && !wins(plan, wisher, plan.fittingAfter(fits, painting), bare & ~(1 << s), 1 - turn, 1)) {
                        return 10 * s + p;
                    }
                }
            }
            return NONE;
        }

        private static int fittingForSome(Plan plan, int worn) {
            return plan.fitting(worn) & (plan.paintingsOf(0) | plan.paintingsOf(1));
        }

        private boolean wins(Plan plan, int wisher, int fits, int bare, int turn, int depth) {
            // A bare stone that nobody can paint any more settles the one game, and leaves the other one as it is.
            if (wisher != NOBODY && (bare & ~Plan.painted(fits)) != 0) {
                return turn != wisher;
            }
            if ((fits & plan.paintingsOf(turn)) == 0) {
                return wisher != NOBODY && (bare == 0) == (turn == wisher);
            }
            int key = (fits << 1 | turn) << 2 | wisher;
            int before = recall(key);
            if (before != UNKNOWN) {
                return before == WON;
            }
            boolean won = hasWinning(plan, wisher, fits, bare, turn, depth);
            note(key, won ? WON : LOST);
            return won;
        }

        private boolean hasWinning(Plan plan, int wisher, int fits, int bare, int turn, int depth) {
            int left = fits & plan.paintingsOf(turn);
            for (int i = 0; i < PAINTINGS && left != 0 && depth < STONES; i++) {
                int painting = left & -left;
                left &= ~painting;
                int bareThen = bare & ~Plan.painted(painting);
                if (!wins(plan, wisher, plan.fittingAfter(fits, painting), bareThen, 1 - turn, depth + 1)) {
                    return true;
                }
            }
            return false;
        }

        private static int cellOf(int key) {
            return key * 0x9E3779B1 >>> 32 - CELL_BITS;
        }

        private int recall(int key) {
            int cell = cellOf(key);
            if (cell >= known.length || known[cell] >>> 2 != key) {
                return UNKNOWN;
            }
            return known[cell] & 3;
        }

        private void note(int key, int answer) {
            int cell = cellOf(key);
            if (cell < known.length) {
                known[cell] = key << 2 | answer;
            }
        }
    }

    // No order is gone through: the stones on a wall never clash, so all that counts is who has which paint.
    private static final class Past {
        static int ordersOf(Plan plan, int loose) {
            int many = Integer.bitCount(loose);
            int byFirst = many - many / 2;
            int free = Integer.bitCount(byEither(plan, loose));
            int freeByFirst = byFirst - Integer.bitCount(byOneAlone(plan, loose, 0));
            if (byNeither(plan, loose) != 0 || freeByFirst < 0 || freeByFirst > free) {
                return 0;
            }
            return choose(free, freeByFirst) * rowsOf(byFirst) * rowsOf(many - byFirst);
        }

        static int surelyBy(Plan plan, int loose, int painter) {
            if (ordersOf(plan, loose) == 0) {
                return 0;
            }
            int many = Integer.bitCount(loose);
            int his = painter == 0 ? many - many / 2 : many / 2;
            int alone = byOneAlone(plan, loose, painter);
            int either = byEither(plan, loose);
            boolean allHis = his - Integer.bitCount(alone) == Integer.bitCount(either);
            return allHis ? alone | either : alone;
        }

        private static int byOneAlone(Plan plan, int loose, int painter) {
            return stonesIn(loose, plan.paintsOf(painter) & ~plan.paintsOf(1 - painter));
        }

        private static int byEither(Plan plan, int loose) {
            return stonesIn(loose, plan.paintsOf(0) & plan.paintsOf(1));
        }

        private static int byNeither(Plan plan, int loose) {
            return stonesIn(loose, ~plan.paintsOf(0) & ~plan.paintsOf(1));
        }

        private static int stonesIn(int loose, int paints) {
            int found = 0;
            for (int p = 1; p <= PAINTS; p++) {
                found |= (paints >> p - 1 & 1) != 0 ? Plan.stonesWith(loose, p) : 0;
            }
            return found;
        }

        private static int choose(int of, int taken) {
            int found = 1;
            for (int i = 0; i < taken && i < STONES; i++) {
                found = found * (of - i) / (i + 1);
            }
            return found;
        }

        private static int rowsOf(int many) {
            int found = 1;
            for (int i = 2; i <= many && i <= STONES; i++) {
                found *= i;
            }
            return found;
        }
    }

    private static final class Lot {
        private long above;
        private long below;

        long chance(Plan plan, int worn, int turn, int turns, int part) {
            weigh(plan, plan.fitting(worn), turn, turns);
            return part == 0 ? above : below;
        }

        private void weigh(Plan plan, int fits, int turn, int turns) {
            if ((fits & plan.paintingsOf(turn)) == 0) {
                settle(turn == 0 ? 1 : 0, 1);
            } else if (turns <= 0) {
                settle(0, 1);
            } else {
                weighAll(plan, fits, turn, turns);
            }
        }

        private void weighAll(Plan plan, int fits, int turn, int turns) {
            int choices = fits & plan.paintingsOf(turn);
            long sum = 0;
            long parts = 1;
            for (int i = 0; i < PAINTINGS; i++) {
                if ((choices >> i & 1) != 0) {
                    weigh(plan, plan.fittingAfter(fits, 1 << i), 1 - turn, turns - 1);
                    settle(sum * below + above * parts, parts * below);
                    sum = above;
                    parts = below;
                }
            }
            settle(sum, parts * Integer.bitCount(choices));
        }

        private void settle(long a, long b) {
            long common = commonPart(a, b);
            above = common == 0 ? 0 : a / common;
            below = common == 0 ? 1 : b / common;
        }

        private static long commonPart(long a, long b) {
            long x = a;
            long y = b;
            for (int i = 0; i < 100 && y != 0; i++) {
                long rest = x % y;
                x = y;
                y = rest;
            }
            return x;
        }

        int draw(Plan plan, int worn, int turn, int z, int what) {
            int fits = plan.fitting(worn);
            int painted = Integer.bitCount(worn);
            int painter = turn;
            for (int k = 0; k < STONES; k++) {
                int choices = fits & plan.paintingsOf(painter);
                int many = Integer.bitCount(choices);
                if (many == 0) {
                    break;
                }
                long x = 7919L * z + 6151L * k + 1;
                fits = plan.fittingAfter(fits, picked(choices, (int) (x * x % 65521 % many)));
                painted++;
                painter = 1 - painter;
            }
            return what == 0 ? painter : painted;
        }

        private static int picked(int choices, int number) {
            int left = number;
            for (int s = 0; s < STONES; s++) {
                for (int p = 1; p <= PAINTS; p++) {
                    int painting = Plan.painting(s, p);
                    if ((choices & painting) != 0 && left-- == 0) {
                        return painting;
                    }
                }
            }
            return 0;
        }
    }
}
