import java.math.BigInteger;
import java.util.ArrayDeque;
import java.util.ArrayList;
import java.util.Arrays;
import java.util.Deque;
import java.util.HashMap;
import java.util.List;
import java.util.Map;
import java.util.Random;
import java.util.regex.Matcher;
import java.util.regex.Pattern;

/** Long runs of calls by chance (always the same ones), each answer against a slow program by the document's words. */
public final class ReferenceTest {
    private static final int BAD = -1, NO = -2, FULL = -3, NONE = -4;

    public static void main(String[] args) {
        int runs = args.length > 0 ? Integer.parseInt(args[0]) : 1500;
        long seed = args.length > 1 ? Long.parseLong(args[1]) : 20261118L;
        long asked = 0;
        int wrong = 0;
        Map<String, Integer> seen = new HashMap<>();
        for (int run = 0; run < runs && wrong < 5; run++) {
            Driver d = new Driver(new Random((seed + run) * 0x9E3779B97F4A7C15L), seen);
            String fault = d.drive(300);
            asked += d.asked;
            if (fault != null) {
                wrong++;
                System.out.println("run " + run + ": " + fault);
            }
        }
        System.out.println(asked + " answers in " + runs + " runs, " + wrong + " runs wrong");
        String[] due = {"lay ok", "lay NO", "fault NONE", "fault some", "paint ok", "paint NO", "rain ok", "rain NO", "pass ok", "pass NO",
            "undo ok", "undo NO", "tell ok", "tell FULL", "judge NONE", "judge some", "write FULL", "scrape ok", "scrape NONE", "fewest NONE",
            "fewest ok", "keep FULL", "back ok", "back NO", "beer NONE", "beer ok", "white NONE", "white ok", "odds ok"};
        for (String s : due) {
            if (runs >= 1000 && seen.getOrDefault(s, 0) < 20) {
                wrong++;
                System.out.println("hardly ever asked for: " + s);
            }
        }
        if (wrong != 0) {
            System.exit(1);
        }
    }

    /** Makes the calls. */
    private static final class Driver {
        final Random r;
        final Map<String, Integer> seen;
        final PaintersAtWall x = new PaintersAtWall();
        final Model m = new Model();
        final StringBuilder log = new StringBuilder();
        int asked = 0;

        Driver(Random r, Map<String, Integer> seen) {
            this.r = r;
            this.seen = seen;
        }

        String drive(int calls) {
            boolean heavy = r.nextInt(4) == 0;
            while (asked < calls) {
                String fault = r.nextInt(40) == 0 || asked == 0 && r.nextInt(5) != 0 ? newWall() : step(heavy);
                if (fault != null) {
                    return fault;
                }
            }
            return null;
        }

        String newWall() {
            if (r.nextInt(8) != 0) {
                String fault = same("wipe()", x.wipe(), m.wipe());
                if (fault != null) {
                    return fault;
                }
            }
            String text = Texts.some(r);
            int at = 0;
            while (at < text.length()) {
                int n = Math.min(1 + r.nextInt(8), text.length() - at);
                long v = r.nextLong();
                for (int i = 0; i < n; i++) {
                    v = v << 8 | text.charAt(at + i);
                }
                String fault = same("write(" + n + ", " + v + ")", x.write(n, v), m.write(n, v));
                if (fault != null) {
                    return fault;
                }
                at += n;
            }
            String fault = same("fault()", x.fault(), m.fault());
            return fault != null ? fault : same("lay()", x.lay(), m.lay());
        }

        int some(int from, int to) {
            if (r.nextInt(60) == 0) {
                int[] odd = {-1, from - 1, to + 1, Integer.MIN_VALUE, Integer.MAX_VALUE, 32, 64, 10};
                return odd[r.nextInt(odd.length)];
            }
            return from + r.nextInt(to - from + 1);
        }

        String step(boolean heavy) {
            int s = some(0, m.n() - 1), p = some(1, m.P), w = some(0, 1), d = some(0, 1), n;
            switch (r.nextInt(heavy ? 62 : 40)) {
                case 0: return same("stone(" + s + ", " + (n = some(0, 2)) + ")", x.stone(s, n), m.stone(s, n));
                case 1: return same("touch(" + p + ", " + (n = some(1, m.P)) + ")", x.touch(p, n), m.touch(p, n));
                case 2: return same("may(" + s + ")", x.may(s), m.may(s));
                case 3: case 4: case 5: case 6: case 7: case 8: case 9: case 10: return aPainting();
                case 11: case 12: return same("rain(" + (n = some(1, 3)) + ")", x.rain(n), m.rain(n));
                case 13: case 14: return same("pass()", x.pass(), m.pass());
                case 15: case 16: return same("undo()", x.undo(), m.undo());
                case 17: case 18: case 19: case 20: return same("tell(" + s + ", " + p + ")", x.tell(s, p), m.tell(s, p));
                case 21: return r.nextInt(3) == 0 ? same("noRow()", x.noRow(), m.noRow()) : null;
                case 22: case 23: return same("judge()", x.judge(), m.judge());
                case 24: return same("keep()", x.keep(), m.keep());
                case 25: return same("back()", x.back(), m.back());
                case 26: case 27: return same("count(" + (n = some(0, 8)) + ")", x.count(n), m.count(n));
                case 28: return same("fault()", x.fault(), m.fault());
                case 29: return r.nextInt(4) == 0 ? same("lay()", x.lay(), m.lay()) : null;
                case 30: {
                    n = some(1, 8);
                    long v = r.nextLong();
                    return r.nextInt(3) == 0 ? same("write(" + n + ", " + v + ")", x.write(n, v), m.write(n, v)) : null;
                }
                case 31: return r.nextInt(20) == 0 ? fill() : null;
                case 32: case 33: return m.loose().size() > 7 ? null : same("orders()", x.orders(), m.orders());
                case 34: return m.loose().size() > 7 ? null : same("only(" + d + ")", x.only(d), m.only(d));
                case 35: return odds(some(0, 2), w);
                case 36: return evening(some(0, 9999), w);
                case 37: return m.bareMany() > 6 ? null : same("ways()", x.ways(), m.ways());
                case 38: case 39: return same("may(" + s + ")", x.may(s), m.may(s));
                case 40: case 41: return same("ways()", x.ways(), m.ways());
                case 42: case 43: return same("fewest()", x.fewest(), m.fewest());
                case 44: case 45: case 46: return same("scrape(" + w + ")", x.scrape(w), m.scrape(w));
                case 47: case 48: return same("matters()", x.matters(), m.matters());
                case 49: case 50: return m.bareMany() > 7 ? null : same("beer(" + w + ")", x.beer(w), m.beer(w));
                case 51: case 52: case 53: return m.bareMany() > 7 ? null : same("white(" + d + ", " + w + ")", x.white(d, w), m.white(d, w));
                case 54: return r.nextInt(15) != 0 ? null : same("beer(" + w + ")", x.beer(w), m.beer(w));
                case 55: return r.nextInt(15) != 0 ? null : same("white(" + d + ", " + w + ")", x.white(d, w), m.white(d, w));
                case 56: case 57: return odds(some(0, 2), w);
                case 58: case 59: return evening(some(0, 9999), w);
                case 60: return same("orders()", x.orders(), m.loose().size() > 8 ? x.orders() : m.orders());
                default: return m.loose().size() > 8 ? null : same("only(" + d + ")", x.only(d), m.only(d));
            }
        }

        String fill() {
            for (int i = 0; i < 26; i++) {
                String fault = same("write(8, 0)", x.write(8, 0), m.write(8, 0));
                if (fault != null) {
                    return fault;
                }
            }
            return null;
        }

        String odds(int n, int part) {
            return same("odds(" + n + ", " + part + ")", x.odds(n, part), m.odds(n, part));
        }

        String evening(int z, int what) {
            return same("evening(" + z + ", " + what + ")", x.evening(z, what), m.evening(z, what));
        }

        /** Mostly one that may be. */
        String aPainting() {
            int s = some(0, m.n() - 1), p = some(1, m.P);
            List<int[]> can = m.can(m.paint, m.turn);
            if (!can.isEmpty() && r.nextInt(3) != 0) {
                int[] one = can.get(r.nextInt(can.size()));
                s = one[0];
                p = one[1];
            }
            return same("paint(" + s + ", " + p + ")", x.paint(s, p), m.paint(s, p));
        }

        String same(String call, long got, long want) {
            asked++;
            log.append(call).append(" = ").append(got).append('\n');
            String name = call.substring(0, call.indexOf('('));
            String kind = want == NO ? " NO" : want == FULL ? " FULL" : want == NONE ? " NONE" : want == BAD ? " BAD"
                : name.equals("fault") || name.equals("judge") ? " some" : " ok";
            seen.merge(name + kind, 1, Integer::sum);
            return got == want ? null : call + " answered " + got + ", due is " + want + "\n" + log;
        }
    }

    /** Texts by chance, most without fault. */
    private static final class Texts {
        static String some(Random r) {
            StringBuilder t = new StringBuilder();
            int R = 1, C = 4, P = 2;
            if (r.nextInt(5) != 0) {
                do {
                    R = 1 + r.nextInt(9);
                    C = 1 + r.nextInt(9);
                } while (R * C > 9 || R * C < 3 && r.nextInt(4) != 0);
                t.append(number(r, 'r', R, C));
            }
            if (r.nextInt(5) != 0) {
                P = 1 + (r.nextInt(6) == 0 ? 0 : 1 + r.nextInt(2));
                t.append('n').append(P).append(';');
            }
            int pairs = r.nextInt(2) * r.nextInt(6);
            for (int i = 0; i < pairs; i++) {
                t.append(number(r, r.nextBoolean() ? 'x' : 'm', 1 + r.nextInt(P), 1 + r.nextInt(P)));
            }
            int hands = r.nextInt(2) * r.nextInt(4);
            for (int i = 0; i < hands; i++) {
                t.append(number(r, 'h', r.nextInt(2), r.nextInt(1 << P)));
            }
            int olds = r.nextInt(2) * r.nextInt(4);
            for (int i = 0; i < olds; i++) {
                if (r.nextInt(3) == 0) {
                    t.append('w').append(r.nextInt(R * C)).append(';');
                } else {
                    t.append(number(r, 'a', r.nextInt(R * C), 1 + r.nextInt(P)));
                }
            }
            if (r.nextInt(4) == 0) {
                spoil(r, t);
            }
            return t.toString();
        }

        private static String number(Random r, char letter, int a, int b) {
            return letter + (r.nextInt(9) == 0 ? "0" : "") + a + "," + (r.nextInt(9) == 0 ? "0" : "") + b + ";";
        }

        private static void spoil(Random r, StringBuilder t) {
            String signs = "rnxmhaw0123456789,;;,, q\u00ff";
            for (int i = 0; i <= r.nextInt(3); i++) {
                int at = r.nextInt(t.length() + 1);
                char c = signs.charAt(r.nextInt(signs.length()));
                switch (r.nextInt(4)) {
                    case 0: t.insert(at, c); break;
                    case 1: if (at < t.length()) { t.setCharAt(at, c); } break;
                    case 2: if (at < t.length()) { t.deleteCharAt(at); } break;
                    default: t.append(new String[] {"r2,2;", "n3;", "n2;", "r1,9;", "x3,3;", "h1,4;", "a8,1;", "w9;"}[r.nextInt(8)]);
                }
            }
        }
    }

    /** The document's words, one by one. */
    private static final class Model {
        private static final Pattern ITEM = Pattern.compile("([a-z])([0-9]{1,2})(?:,([0-9]{1,2}))?;");

        String text = "";
        int R, C, P;
        boolean[][] clash;
        int[] has;
        int[] old;
        boolean[] shut;
        int[] paint;
        List<Integer> came = new ArrayList<>();
        int turn = 0;
        Deque<Object[]> undo = new ArrayDeque<>();
        Deque<Object[]> kept = new ArrayDeque<>();
        List<int[]> row = new ArrayList<>();

        Model() {
            lay();
        }

        int n() {
            return R * C;
        }

        int write(int n, long v) {
            if (n < 1 || n > 8) {
                return BAD;
            }
            if (text.length() + n > 200) {
                return FULL;
            }
            byte[] all = BigInteger.valueOf(v).add(BigInteger.ONE.shiftLeft(72)).toByteArray();
            for (int i = all.length - n; i < all.length; i++) {
                text += (char) (all[i] & 255);
            }
            return text.length();
        }

        int wipe() {
            int was = text.length();
            text = "";
            return was;
        }

        /** A wall from the text: the place of the fault is put into at[0], -1 if there is none. */
        Model read(int[] at) {
            Model w = new Model(0);
            boolean stones = false, paints = false;
            Matcher m = ITEM.matcher(text);
            int place = 0;
            at[0] = -1;
            while (place < text.length()) {
                m.region(place, text.length());
                at[0] = place;
                if (!m.lookingAt()) {
                    return w;
                }
                char c = m.group(1).charAt(0);
                int a = Integer.parseInt(m.group(2));
                boolean two = m.group(3) != null;
                int b = two ? Integer.parseInt(m.group(3)) : -1;
                if ("rxmha".indexOf(c) >= 0 != two || "rnxmhaw".indexOf(c) < 0) {
                    return w;
                }
                boolean stone = a < w.R * w.C;
                boolean aPaint = a >= 1 && a <= w.P, bPaint = b >= 1 && b <= w.P;
                boolean fine = c == 'r' ? !stones && a >= 1 && a <= 9 && b >= 1 && b <= 9 && a * b <= 9
                    : c == 'n' ? !paints && a >= 1 && a <= 3
                    : c == 'x' || c == 'm' ? aPaint && bPaint
                    : c == 'h' ? a <= 1 && b < 1 << w.P
                    : c == 'a' ? stone && bPaint
                    : stone;
                if (!fine) {
                    return w;
                }
                if (c == 'r') {
                    w.R = a;
                    w.C = b;
                } else if (c == 'n') {
                    w.P = a;
                } else if (c == 'x' || c == 'm') {
                    w.clash[a][b] = c == 'x';
                    w.clash[b][a] = c == 'x';
                } else if (c == 'h') {
                    w.has[a] = b;
                } else {
                    w.old[a] = c == 'a' ? b : 0;
                    w.shut[a] = c == 'w';
                }
                stones |= c == 'a' || c == 'w';
                paints |= "xmha".indexOf(c) >= 0;
                place = m.end();
                at[0] = -1;
            }
            return w;
        }

        private Model(int none) {
            R = 1;
            C = 4;
            P = 2;
            clash = new boolean[4][4];
            for (int i = 1; i < 4; i++) {
                clash[i][i] = true;
            }
            has = new int[] {-1, -1};
            old = new int[9];
            shut = new boolean[9];
        }

        int fault() {
            int[] at = new int[1];
            read(at);
            return at[0] < 0 ? NONE : at[0];
        }

        int lay() {
            int[] at = new int[1];
            Model w = read(at);
            if (at[0] >= 0) {
                return NO;
            }
            for (int i = 0; i < w.n(); i++) {
                for (int j = 0; j < w.n(); j++) {
                    if (w.beside(i, j) && w.old[i] > 0 && w.old[j] > 0 && w.clash[w.old[i]][w.old[j]]) {
                        return NO;
                    }
                }
            }
            R = w.R;
            C = w.C;
            P = w.P;
            clash = w.clash;
            has = w.has;
            old = w.old;
            shut = w.shut;
            paint = old.clone();
            came = new ArrayList<>();
            turn = 0;
            undo.clear();
            kept.clear();
            row.clear();
            return n();
        }

        boolean beside(int i, int j) {
            int di = Math.abs(i / C - j / C), dj = Math.abs(i % C - j % C);
            return di + dj == 1;
        }

        boolean isStone(int s) {
            return s >= 0 && s < n();
        }

        boolean isPaint(int p) {
            return p >= 1 && p <= P;
        }

        int stone(int s, int what) {
            if (!isStone(s) || what < 0 || what > 2) {
                return BAD;
            }
            if (what == 0) {
                return shut[s] ? 9 : paint[s];
            }
            if (what == 1) {
                return old[s] > 0 ? 1 : 0;
            }
            int bits = 0;
            for (int j = 0; j < n(); j++) {
                bits |= beside(s, j) ? 1 << j : 0;
            }
            return bits;
        }

        int touch(int a, int b) {
            return !isPaint(a) || !isPaint(b) ? BAD : clash[a][b] ? 0 : 1;
        }

        boolean fits(int[] now, int s, int p) {
            if (now[s] != 0 || shut[s]) {
                return false;
            }
            for (int j = 0; j < n(); j++) {
                if (beside(s, j) && now[j] != 0 && clash[p][now[j]]) {
                    return false;
                }
            }
            return true;
        }

        boolean mayBe(int[] now, int who, int s, int p) {
            return (has[who] >> p - 1 & 1) != 0 && fits(now, s, p);
        }

        List<int[]> can(int[] now, int who) {
            List<int[]> all = new ArrayList<>();
            for (int s = 0; s < n(); s++) {
                for (int p = 1; p <= P; p++) {
                    if (mayBe(now, who, s, p)) {
                        all.add(new int[] {s, p});
                    }
                }
            }
            return all;
        }

        int may(int s) {
            if (!isStone(s)) {
                return BAD;
            }
            int bits = 0;
            for (int p = 1; p <= P; p++) {
                bits |= mayBe(paint, turn, s, p) ? 1 << p - 1 : 0;
            }
            return bits;
        }

        Object[] stand() {
            return new Object[] {paint.clone(), new ArrayList<>(came), turn};
        }

        @SuppressWarnings("unchecked")
        void standAs(Object[] was) {
            paint = ((int[]) was[0]).clone();
            came = new ArrayList<>((List<Integer>) was[1]);
            turn = (Integer) was[2];
        }

        void note() {
            undo.addLast(stand());
            if (undo.size() > 8) {
                undo.removeFirst();
            }
        }

        int withPaint(int[] now) {
            int many = 0;
            for (int p : now) {
                many += p != 0 ? 1 : 0;
            }
            return many;
        }

        int paint(int s, int p) {
            if (!isStone(s) || !isPaint(p)) {
                return BAD;
            }
            if (!mayBe(paint, turn, s, p)) {
                return NO;
            }
            note();
            paint[s] = p;
            came.add(s);
            turn = 1 - turn;
            return withPaint(paint);
        }

        int rain(int n) {
            if (n < 1 || n > 3) {
                return BAD;
            }
            if (came.isEmpty()) {
                return NO;
            }
            note();
            int many = 0;
            while (many < n && !came.isEmpty()) {
                paint[came.remove(came.size() - 1)] = 0;
                many++;
            }
            return many;
        }

        int pass() {
            if (!can(paint, turn).isEmpty()) {
                return NO;
            }
            note();
            turn = 1 - turn;
            return turn;
        }

        int undo() {
            if (undo.isEmpty()) {
                return NO;
            }
            standAs(undo.removeLast());
            return undo.size();
        }

        int tell(int s, int p) {
            if (!isStone(s) || !isPaint(p)) {
                return BAD;
            }
            if (row.size() == 9) {
                return FULL;
            }
            row.add(new int[] {s, p});
            return row.size();
        }

        int noRow() {
            int was = row.size();
            row.clear();
            return was;
        }

        int judge() {
            int[] now = paint.clone();
            for (int i = 0; i < row.size(); i++) {
                int[] one = row.get(i);
                if (!mayBe(now, (turn + i) % 2, one[0], one[1])) {
                    return i;
                }
                now[one[0]] = one[1];
            }
            return NONE;
        }

        int bareMany() {
            int many = 0;
            for (int s = 0; s < n(); s++) {
                many += paint[s] == 0 && !shut[s] ? 1 : 0;
            }
            return many;
        }

        boolean done(int[] now) {
            for (int s = 0; s < n(); s++) {
                if (now[s] == 0 && !shut[s]) {
                    return false;
                }
            }
            return true;
        }

        /** { how many ways, the fewest paints }. */
        int[] fillings(int[] now, int from, boolean oneIsEnough) {
            int s = from;
            while (s < n() && (now[s] != 0 || shut[s])) {
                s++;
            }
            if (s == n()) {
                return new int[] {1, (int) Arrays.stream(now).filter(p -> p != 0).distinct().count()};
            }
            int[] sum = {0, 99};
            for (int p = 1; p <= P && !(oneIsEnough && sum[0] > 0); p++) {
                if (fits(now, s, p)) {
                    now[s] = p;
                    int[] one = fillings(now, s + 1, oneIsEnough);
                    now[s] = 0;
                    sum[0] += one[0];
                    sum[1] = Math.min(sum[1], one[1]);
                }
            }
            return sum;
        }

        int ways() {
            return fillings(paint.clone(), 0, false)[0];
        }

        int fewest() {
            int[] both = fillings(paint.clone(), 0, false);
            return both[0] == 0 ? NONE : both[1];
        }

        List<Integer> loose() {
            List<Integer> found = new ArrayList<>();
            for (int s = 0; s < n(); s++) {
                if (paint[s] != 0 && old[s] == 0) {
                    found.add(s);
                }
            }
            return found;
        }

        boolean waysWithout(int set) {
            int[] now = paint.clone();
            for (int s = 0; s < 9; s++) {
                if ((set >> s & 1) != 0) {
                    now[s] = 0;
                }
            }
            return fillings(now, 0, true)[0] > 0;
        }

        int scrape(int what) {
            if (what != 0 && what != 1) {
                return BAD;
            }
            int all = 0;
            for (int s : loose()) {
                all |= 1 << s;
            }
            int best = -1;
            for (int set = 0; set <= all; set++) {
                boolean better = best < 0 || Integer.bitCount(set) < Integer.bitCount(best);
                if ((set | all) == all && better && waysWithout(set)) {
                    best = set;
                }
            }
            return best < 0 ? NONE : what == 1 ? best : Integer.bitCount(best);
        }

        int matters() {
            int bits = 0;
            if (!waysWithout(0)) {
                for (int s : loose()) {
                    bits |= waysWithout(1 << s) ? 1 << s : 0;
                }
            }
            return bits;
        }

        /** Whether he whose turn it is does not pay. */
        boolean free(int[] now, int who, Map<String, Boolean> known) {
            String key = Arrays.toString(now) + who;
            Boolean before = known.get(key);
            if (before != null) {
                return before;
            }
            boolean free = false;
            for (int[] one : can(now, who)) {
                now[one[0]] = one[1];
                free |= !free(now, 1 - who, known);
                now[one[0]] = 0;
            }
            known.put(key, free);
            return free;
        }

        int beer(int what) {
            if (what != 0 && what != 1) {
                return BAD;
            }
            int[] now = paint.clone();
            Map<String, Boolean> known = new HashMap<>();
            if (what == 0) {
                return free(now, turn, known) ? 1 : 0;
            }
            int best = NONE;
            for (int[] one : can(now, turn)) {
                now[one[0]] = one[1];
                if (best == NONE && !free(now, 1 - turn, known)) {
                    best = 10 * one[0] + one[1];
                }
                now[one[0]] = 0;
            }
            return best;
        }

        /** Whether it comes to be DONE, if d would have it so and the other one not. */
        boolean comesDone(int[] now, int who, int d, Map<String, Boolean> known) {
            String key = Arrays.toString(now) + who;
            Boolean before = known.get(key);
            if (before != null) {
                return before;
            }
            List<int[]> can = can(now, who);
            boolean comes = can.isEmpty() ? done(now) : who != d;
            for (int[] one : can) {
                now[one[0]] = one[1];
                boolean then = comesDone(now, 1 - who, d, known);
                now[one[0]] = 0;
                comes = who == d ? comes || then : comes && then;
            }
            known.put(key, comes);
            return comes;
        }

        int white(int d, int what) {
            if (d != 0 && d != 1 || what != 0 && what != 1) {
                return BAD;
            }
            int[] now = paint.clone();
            Map<String, Boolean> known = new HashMap<>();
            boolean comes = comesDone(now, turn, d, known);
            if (what == 0) {
                return comes ? 1 : 0;
            }
            if (comes != (turn == d)) {
                return NONE;
            }
            for (int[] one : can(now, turn)) {
                now[one[0]] = one[1];
                boolean then = comesDone(now, 1 - turn, d, known);
                now[one[0]] = 0;
                if (then == comes) {
                    return 10 * one[0] + one[1];
                }
            }
            return NONE;
        }

        /** Goes through all orders: how many into sum[0], the stones that 0 and 1 painted in all of these into sum[1], sum[2]. */
        void eachOrder(List<Integer> stones, int at, int[] by, int[] sum) {
            if (at == stones.size()) {
                sum[0]++;
                sum[1] &= by[0];
                sum[2] &= by[1];
                return;
            }
            int who = at % 2;
            for (int i = 0; i < stones.size(); i++) {
                int bit = 1 << stones.get(i);
                if (((by[0] | by[1]) & bit) == 0 && (has[who] >> paint[stones.get(i)] - 1 & 1) != 0) {
                    by[who] |= bit;
                    eachOrder(stones, at + 1, by, sum);
                    by[who] &= ~bit;
                }
            }
        }

        int[] allOrders() {
            int[] sum = {0, -1, -1};
            eachOrder(loose(), 0, new int[2], sum);
            return sum;
        }

        int orders() {
            return allOrders()[0];
        }

        int only(int painter) {
            if (painter != 0 && painter != 1) {
                return BAD;
            }
            int[] sum = allOrders();
            return sum[0] == 0 ? 0 : sum[1 + painter];
        }

        BigInteger[] chance(int[] now, int who, int n) {
            List<int[]> can = can(now, who);
            BigInteger a = BigInteger.ZERO, b = BigInteger.ONE;
            if (can.isEmpty()) {
                a = who == 0 ? BigInteger.ONE : BigInteger.ZERO;
            } else if (n > 0) {
                for (int[] one : can) {
                    now[one[0]] = one[1];
                    BigInteger[] then = chance(now, 1 - who, n - 1);
                    now[one[0]] = 0;
                    a = a.multiply(then[1]).add(then[0].multiply(b));
                    b = b.multiply(then[1]);
                }
                b = b.multiply(BigInteger.valueOf(can.size()));
            }
            BigInteger g = a.gcd(b);
            return new BigInteger[] {a.divide(g), b.divide(g)};
        }

        long odds(int n, int part) {
            if (n < 0 || n > 2 || part != 0 && part != 1) {
                return BAD;
            }
            return chance(paint.clone(), turn, n)[part].longValueExact();
        }

        int evening(int z, int what) {
            if (z < 0 || z > 9999 || what != 0 && what != 1) {
                return BAD;
            }
            int[] now = paint.clone();
            int k = 0;
            while (true) {
                int who = (turn + k) % 2;
                List<int[]> can = can(now, who);
                if (can.isEmpty()) {
                    return what == 0 ? who : withPaint(now);
                }
                BigInteger x = BigInteger.valueOf(7919).multiply(BigInteger.valueOf(z))
                    .add(BigInteger.valueOf(6151).multiply(BigInteger.valueOf(k))).add(BigInteger.ONE);
                int number = x.multiply(x).mod(BigInteger.valueOf(65521)).mod(BigInteger.valueOf(can.size())).intValue();
                now[can.get(number)[0]] = can.get(number)[1];
                k++;
            }
        }

        int keep() {
            if (kept.size() == 2) {
                return FULL;
            }
            kept.addLast(stand());
            return kept.size();
        }

        int back() {
            if (kept.isEmpty()) {
                return NO;
            }
            standAs(kept.removeLast());
            undo.clear();
            return kept.size();
        }

        int count(int what) {
            int[] all = {n(), P, turn, withPaint(paint), row.size(), undo.size(), kept.size(), text.length(), came.size()};
            return what < 0 || what > 8 ? BAD : all[what];
        }
    }
}
