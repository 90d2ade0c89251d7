import java.io.IOException;
import java.nio.file.Files;
import java.nio.file.Path;
import java.util.ArrayList;
import java.util.List;

/**
 * Goes through ../shared/DOC.md sentence by sentence: says() takes the next one, and the runs under it are its test. No
 * sentence can be left out: what says() passes over is told as wrong. A run is a row of calls on a new object, each with
 * its answer. Behind every call that asks or is refused nothing may have changed: what can be seen of the object by any
 * calls is compared with what can be seen of one without that call.
 */
public final class EdgesTest {
    private static final int BAD = -1, NO = -2, FULL = -3, NONE = -4;
    private static final int LEAST = Integer.MIN_VALUE, MOST = Integer.MAX_VALUE;

    // 0 is old, 5 takes none, painter 1 has 2 and 3, which may not touch; 0's turn, 1 has passed.
    private static final String RICH_TEXT = "r2,3;n3;h1,6;a0,1;w5;x2,3;";
    private static final String RICH = "text(" + RICH_TEXT + ")=26 lay()=6 paint(1,2)=2 paint(3,3)=3 keep()=1 paint(4,1)=4 pass()=0"
        + " tell(2,1)=1 tell(2,1)=2 ";

    private static String doc = "";
    private static int read = 0;
    private static String sentence = "";
    private static int sentences = 0;
    private static int runs = 0;
    private static int asked = 0;
    private static int wrong = 0;

    public static void main(String[] args) throws IOException {
        doc = sentencesOf(Files.readString(Path.of("../shared/DOC.md")));
        texts();
        shapes();
        paints();
        painters();
        oldOnes();
        faults();
        calls512();
        laid();
        turns();
        rained();
        undone();
        toldRows();
        wholeWall();
        scraped();
        beers();
        whites();
        orders();
        lots();
        kept();
        refusals();
        promises1to5();
        promises6to12();
        promises13to21();
        promises22to28();
        pass(doc.length());
        System.out.println(sentences + " sentences, " + runs + " runs, " + asked + " answers asked for, " + wrong + " wrong");
        if (wrong != 0) {
            System.exit(1);
        }
    }

    // ---- the document

    /** What the document says, without headings, signatures and the face. */
    private static String sentencesOf(String whole) {
        StringBuilder s = new StringBuilder();
        boolean face = false;
        for (String line : whole.split("\n")) {
            face = line.startsWith("```java") || face && !line.startsWith("```");
            if (!face && !line.startsWith("```") && !line.startsWith("#") && !line.startsWith("Ahead of the calls")) {
                s.append(line.replaceFirst("^`[^`]*`: ", "").replaceAll("======== \\d ", "").trim()).append(' ');
            }
        }
        String all = s.toString().replaceAll("\\s+", " ");
        return all.substring(all.indexOf("A TEXT is bytes"), all.indexOf("How the state is held"));
    }

    /** The next sentence of the document: nothing but signs may stand between it and the one before. */
    private static void says(String next) {
        sentence = next;
        sentences++;
        int at = doc.indexOf(next, read);
        if (at < 0) {
            fail("the document does not say this behind: " + doc.substring(Math.max(0, read - 60), read));
            return;
        }
        pass(at);
        read = at + next.length();
    }

    private static void pass(int to) {
        String between = doc.substring(read, to);
        if (between.matches(".*[A-Za-z0-9].*")) {
            fail("no test of: " + between);
        }
    }

    private static void fail(String what) {
        wrong++;
        if (wrong < 50) {
            System.out.println("'" + sentence + "': " + what);
        }
    }

    private static void due(String what, long got, long want) {
        asked++;
        if (got != want) {
            fail(what + " answered " + got + ", due is " + want);
        }
    }

    // ---- runs

    private static final class Call {
        final String name;
        final String raw;
        final long[] args;
        // null: whatever it answers, but for a call that is to change something: that may not be refused
        final Long due;

        Call(String told) {
            int open = told.indexOf('('), close = told.lastIndexOf(')');
            name = told.substring(0, open);
            raw = told.substring(open + 1, close);
            boolean text = name.equals("text") || raw.isEmpty();
            String[] parts = text ? new String[0] : raw.split(",");
            args = new long[parts.length];
            for (int i = 0; i < parts.length; i++) {
                args[i] = Long.parseLong(parts[i]);
            }
            due = close + 1 == told.length() ? null : Long.valueOf(answer(told.substring(close + 2)));
        }

        private static long answer(String told) {
            switch (told) {
                case "BAD": return BAD;
                case "NO": return NO;
                case "FULL": return FULL;
                case "NONE": return NONE;
                default: return Long.parseLong(told);
            }
        }

        boolean changesNothing() {
            boolean changes = " text write wipe lay paint rain pass undo tell noRow keep back ".contains(" " + name + " ");
            return !changes || due != null && due < 0;
        }

        long on(PaintersAtWall x) {
            int a = args.length > 0 ? (int) args[0] : 0, b = args.length > 1 ? (int) args[1] : 0;
            switch (name) {
                case "text": return write(x, raw);
                case "write": return x.write(a, args[1]);
                case "wipe": return x.wipe();
                case "fault": return x.fault();
                case "lay": return x.lay();
                case "stone": return x.stone(a, b);
                case "touch": return x.touch(a, b);
                case "may": return x.may(a);
                case "paint": return x.paint(a, b);
                case "rain": return x.rain(a);
                case "pass": return x.pass();
                case "undo": return x.undo();
                case "tell": return x.tell(a, b);
                case "noRow": return x.noRow();
                case "judge": return x.judge();
                case "ways": return x.ways();
                case "fewest": return x.fewest();
                case "scrape": return x.scrape(a);
                case "matters": return x.matters();
                case "beer": return x.beer(a);
                case "white": return x.white(a, b);
                case "orders": return x.orders();
                case "only": return x.only(a);
                case "odds": return x.odds(a, b);
                case "evening": return x.evening(a, b);
                case "keep": return x.keep();
                case "back": return x.back();
                case "count": return x.count(a);
                default: throw new IllegalArgumentException(name);
            }
        }

        @Override
        public String toString() {
            return name + "(" + raw + ")";
        }
    }

    private static long write(PaintersAtWall x, String text) {
        long answer = x.count(7);
        for (int i = 0; i < text.length(); i++) {
            answer = x.write(1, text.charAt(i));
        }
        return answer;
    }

    private static void run(String told) {
        List<Call> calls = new ArrayList<>();
        for (String one : told.trim().split("\\s+")) {
            calls.add(new Call(one));
        }
        runs++;
        PaintersAtWall x = new PaintersAtWall();
        int from = 0;
        for (int i = 0; i < calls.size(); i++) {
            Call c = calls.get(i);
            long got = c.on(x);
            asked++;
            if (c.due == null ? got < 0 && !c.changesNothing() : got != c.due) {
                fail(c + " answered " + got + ", due is " + c.due + " in " + calls.subList(0, i + 1));
                return;
            }
            if (!c.changesNothing()) {
                from = i + 1;
            } else if (i + 1 == calls.size() || !calls.get(i + 1).changesNothing()) {
                dueUnchanged(calls, from, i + 1);
            }
        }
    }

    /** A wall laid by this text, then these calls. */
    private static void on(String text, String calls) {
        run("text(" + text + ") lay() " + calls);
    }

    private static void dueUnchanged(List<Call> calls, int from, int to) {
        String before = Sight.of(calls.subList(0, from));
        String then = Sight.of(calls.subList(0, to));
        asked++;
        if (!before.equals(then)) {
            fail("changed by " + calls.subList(from, to) + " behind " + calls.subList(0, from) + ":\n  " + before + "\n  " + then);
        }
    }

    /** All that can be seen of an object behind some calls, by any calls that follow. */
    private static final class Sight {
        private final List<Call> calls;
        private final StringBuilder seen = new StringBuilder();

        private Sight(List<Call> calls) {
            this.calls = calls;
        }

        static String of(List<Call> calls) {
            Sight s = new Sight(calls);
            s.look(s.anew());
            s.rainedOff(s.anew());
            for (int k = 1; k <= 8; k++) {
                PaintersAtWall x = s.anew();
                int left = 0;
                for (int i = 0; i < k && left >= 0; i++) {
                    left = x.undo();
                }
                s.see(left).rainedOff(x);
            }
            for (int k = 1; k <= 2; k++) {
                PaintersAtWall x = s.anew();
                for (int i = 0; i < k; i++) {
                    s.see(x.back());
                }
                s.see(x.undo()).rainedOff(x);
            }
            PaintersAtWall x = s.anew();
            s.see(x.write(1, ';')).see(x.fault());
            PaintersAtWall y = s.anew();
            s.see(y.lay()).look(y);
            PaintersAtWall z = s.anew();
            s.see(z.noRow()).see(z.wipe()).see(z.lay()).look(z);
            return s.seen.toString();
        }

        private PaintersAtWall anew() {
            seen.append('\n');
            PaintersAtWall x = new PaintersAtWall();
            for (Call c : calls) {
                c.on(x);
            }
            return x;
        }

        private Sight see(long answer) {
            seen.append(answer).append(' ');
            return this;
        }

        private void rainedOff(PaintersAtWall x) {
            glance(x);
            for (int i = 0; i < 10 && see(x.rain(1)).seen.charAt(seen.length() - 2) != '2'; i++) {
                glance(x);
            }
        }

        private void glance(PaintersAtWall x) {
            for (int s = 0; s < 9; s++) {
                see(x.stone(s, 0));
            }
            see(x.count(2)).see(x.count(8)).see(x.judge());
        }

        private void look(PaintersAtWall x) {
            for (int i = 0; i < 9; i++) {
                see(x.count(i)).see(x.stone(i, 0)).see(x.stone(i, 1)).see(x.stone(i, 2)).see(x.may(i)).see(x.touch(i / 3 + 1, i % 3 + 1));
            }
            see(x.fault()).see(x.judge()).see(x.ways()).see(x.fewest()).see(x.matters()).see(x.orders());
            for (int i = 0; i < 2; i++) {
                see(x.scrape(i)).see(x.beer(i)).see(x.white(0, i)).see(x.white(1, i)).see(x.only(i));
                see(x.odds(0, i)).see(x.odds(1, i)).see(x.odds(2, i)).see(x.evening(0, i)).see(x.evening(77, i));
            }
        }
    }

    /** Numbers that are none of from .. to, those too that would seem to be by a shift, a mask or a cut. */
    private static List<Integer> outside(int from, int to) {
        List<Integer> found = new ArrayList<>();
        int[] some = {from - 1, to + 1, -1, from + 32, to + 32, from + 64, from - 32, from + 256, from + 65536, from + (1 << 30), LEAST, LEAST + from,
            LEAST + to, LEAST + 1, MOST, MOST - 1, -to, ~to};
        for (int one : some) {
            if (one < from || one > to) {
                found.add(one);
            }
        }
        return found;
    }

    private static PaintersAtWall written(String text) {
        PaintersAtWall x = new PaintersAtWall();
        write(x, text);
        return x;
    }

    /** FAULT is at this place (NONE: there is none), and what has one can not be LAID. */
    private static void dueFault(String text, long want) {
        PaintersAtWall x = written(text);
        due("fault of '" + text + "'", x.fault(), want);
        if (want != NONE) {
            due("lay of '" + text + "'", x.lay(), NO);
        }
    }

    private static void dueLaid(String text, long want) {
        PaintersAtWall x = written(text);
        due("fault of '" + text + "'", x.fault(), NONE);
        due("lay of '" + text + "'", x.lay(), want);
    }

    /** All of one figure or two, led by 0 or not, in an item of one number. */
    private static List<String> numbers() {
        List<String> all = new ArrayList<>();
        for (int i = 0; i < 100; i++) {
            all.add("" + i);
            if (i < 10) {
                all.add("0" + i);
            }
        }
        return all;
    }

    // ---- 1: texts

    private static void texts() {
        says("A TEXT is bytes (200 at most)");
        for (int left = 0; left <= 9; left++) {
            for (int n = 1; n <= 8; n++) {
                run(filled(200 - left) + "write(" + n + ",0)=" + (n <= left ? 200 - left + n : FULL) + " count(7)=" + (n <= left ? 200 - left + n : 200 - left));
            }
        }
        String full = "w0;".repeat(64) + "a1,2;w3;";
        due("bytes", full.length(), 200);
        run("text(" + full + ")=200 fault()=NONE lay()=4 stone(0,0)=9 stone(1,0)=2 stone(2,0)=0 stone(3,0)=9 wipe()=200");
        run("text(" + full.substring(0, 199) + ",)=200 fault()=197 lay()=NO");
        for (int b = 0; b < 256; b++) {
            run("write(1," + b + ")=1 fault()=0 lay()=NO count(7)=1");
        }
        says("ITEMS one behind the other, each a letter, numbers (one or two figures) parted by , and ; (behind the last one, too):");
        for (String fine : new String[] {"", "r1,4;", "r01,04;", "r1,04;", "n1;", "n02;", "x1,2;", "x01,02;", "m2,2;", "h0,3;", "h00,00;", "a3,2;",
            "a03,02;", "w3;", "w03;", "r1,4;n3;x1,2;m2,2;h1,7;a0,1;w3;"}) {
            dueFault(fine, NONE);
            dueFault(fine + "w0;", NONE);
        }
        for (String bad : new String[] {"r1,4", "r1,", "r1", "r", "n1", "n", "w0", "w", "a0,1", "h0,1", "x1,2", "m1,2", "r;", "n;", "r1;", "r1,;", "r,4;",
            "r1,4,;", "r1,4,1;", "r,1,4;", "r1,,4;", "r1;4;", "n1,;", "n1,1;", "n,1;", "w0,0;", "h0;", "a0;", "x1;", "m1;", "h0,1,1;", "a0,1,1;",
            "x1,2,1;", "r001,4;", "r1,004;", "n001;", "w000;", "a000,1;", "a0,001;", "h000,1;", "x001,1;", "m1,001;", "1,4;", "1;", ";", ",", ",;", "R1,4;",
            "N1;", "X1,2;", "M1,2;", "H0,1;", "A0,1;", "W0;", "b0,1;", "y1,2;", "s1,4;", "rr1,4;", "rn1;", "r 1,4;", "r1 ,4;", "r1, 4;", "r1,4 ;", " r1,4;",
            "r+1,4;", "r1,-4;", "n-1;", "r1.4;", "r1:4;", "\n", "\u0000", "\u00ff"}) {
            dueFault(bad, 0);
            dueFault(bad + "w0;", 0);
            dueFault("r1,4;n2;" + bad, 8);
        }
        for (String between : new String[] {" ", ";", ",", "\n", "\u0000", "0"}) {
            dueFault("n2;" + between + "w0;", 3);
            dueFault("n2;w0;" + between, 6);
        }
        for (String item : new String[] {"r2,3;", "n2;", "x1,2;", "m1,2;", "h1,2;", "a3,1;", "w2;"}) {
            for (int at = 0; at < item.length(); at++) {
                for (char b = 0; b < 256; b++) {
                    String other = item.substring(0, at) + b + item.substring(at + 1);
                    dueFault(other, isFine(other) ? NONE : 0);
                }
            }
        }
    }

    private static String filled(int bytes) {
        return "write(8,0) ".repeat(bytes / 8) + (bytes % 8 > 0 ? "write(" + bytes % 8 + ",0)=" + bytes + " " : "");
    }

    /** Of an item ahead of which none stands. */
    private static boolean isFine(String item) {
        if (!item.matches("[rxmha][0-9]{1,2},[0-9]{1,2};|[nw][0-9]{1,2};")) {
            return false;
        }
        String[] parts = item.substring(1, item.length() - 1).split(",");
        int a = Integer.parseInt(parts[0]), b = parts.length > 1 ? Integer.parseInt(parts[1]) : 0;
        switch (item.charAt(0)) {
            case 'r': return a > 0 && b > 0 && a * b < 10;
            case 'n': return a > 0 && a < 4;
            case 'h': return a < 2 && b < 4;
            case 'a': return a < 4 && b > 0 && b < 3;
            case 'w': return a < 4;
            default: return a > 0 && a < 3 && b > 0 && b < 3;
        }
    }

    private static void shapes() {
        says("rR,C R rows of C STONES (1 to 9 each; 9 STONES at most in all;");
        for (String r : numbers()) {
            for (String c : numbers()) {
                int rows = Integer.parseInt(r), columns = Integer.parseInt(c);
                boolean fine = rows >= 1 && columns >= 1 && rows * columns <= 9;
                if (fine) {
                    dueLaid("r" + r + "," + c + ";", rows * columns);
                } else {
                    dueFault("r" + r + "," + c + ";", 0);
                }
            }
        }
        on("r9,1;", "count(0)=9 stone(8,2)=128 stone(9,2)=BAD");
        on("r1,9;", "count(0)=9 stone(8,2)=128 stone(9,2)=BAD");
        on("r1,1;", "count(0)=1 stone(0,2)=0 stone(1,2)=BAD");
        says("1, 4 without;");
        run("count(0)=4 stone(0,2)=2 stone(1,2)=5 stone(2,2)=10 stone(3,2)=4 stone(4,2)=BAD");
        on("n3;", "count(0)=4 stone(0,2)=2 stone(3,2)=4");
        dueFault("w3;", NONE);
        dueFault("w4;", 0);
        says("no a, w told ahead of it;");
        dueFault("w0;r1,4;", 3);
        dueFault("a0,1;r1,4;", 5);
        dueFault("r2,2;w0;r2,2;", 8);
        dueFault("r2,2;a0,1;w0;r2,2;", 13);
        dueLaid("n2;x1,2;m1,2;h0,1;r2,3;", 6);
        says("of several the last one counts);");
        dueLaid("r3,3;r1,2;", 2);
        dueLaid("r1,2;n3;r3,3;", 9);
        dueLaid("r1,2;r3,3;a8,1;w7;", 9);
        dueFault("r3,3;r1,2;w2;", 10);
        on("r3,3;r1,5;r2,2;", "stone(0,2)=6 stone(3,2)=6 stone(4,0)=BAD");
        says("STONE 0 is the first of the first row, then along it, row by row; two TOUCH, if they are beside, or one right under, the other one");
        for (int r = 1; r <= 9; r++) {
            for (int c = 1; r * c <= 9; c++) {
                for (int s = 0; s < r * c; s++) {
                    shape(r, c, s);
                }
            }
        }
        // The end of a row is not beside the start of the next one; neither do corners touch.
        on("r3,3;n1;", "paint(2,1)=1 may(3)=1 paint(3,1)=2 may(7)=1 paint(7,1)=3 may(5)=0 may(1)=0 may(8)=0");
    }

    private static void shape(int rows, int columns, int s) {
        int near = 0;
        StringBuilder may = new StringBuilder();
        for (int t = 0; t < rows * columns; t++) {
            int down = t / columns - s / columns, along = t % columns - s % columns;
            boolean touches = down * down + along * along == 1;
            near |= touches ? 1 << t : 0;
            may.append(" may(").append(t).append(")=").append(touches || t == s ? 0 : 1);
        }
        on("r" + rows + "," + columns + ";n1;", "stone(" + s + ",2)=" + near + " paint(" + s + ",1)=1" + may);
    }

    private static void paints() {
        says("nP there are P PAINTS, 1 to P (1 to 3;");
        for (String p : numbers()) {
            int many = Integer.parseInt(p);
            dueFault("n" + p + ";", many >= 1 && many <= 3 ? NONE : 0);
        }
        on("n1;", "count(1)=1 may(0)=1 touch(1,1)=0 touch(1,2)=BAD paint(0,2)=BAD paint(0,1)=1");
        on("n2;", "count(1)=2 may(0)=3 touch(2,2)=0 touch(2,3)=BAD paint(0,3)=BAD paint(0,2)=1");
        on("n3;", "count(1)=3 may(0)=7 touch(3,3)=0 touch(3,4)=BAD paint(0,4)=BAD paint(0,3)=1");
        says("2 without;");
        run("count(1)=2 may(0)=3 touch(2,1)=1 touch(3,1)=BAD paint(0,3)=BAD paint(0,2)=1");
        dueFault("a0,2;", NONE);
        dueFault("a0,3;", 0);
        says("no x, m, h, a told ahead of it;");
        dueFault("x1,2;n2;", 5);
        dueFault("m1,2;n2;", 5);
        dueFault("h0,1;n2;", 5);
        dueFault("a0,1;n2;", 5);
        dueFault("n2;x1,2;n2;", 8);
        dueFault("n2;h0,1;w0;n2;", 11);
        dueFault("w0;n3;", NONE);
        dueFault("r2,2;w0;n3;", NONE);
        says("of several the last one counts);");
        on("n3;n1;", "count(1)=1 may(0)=1");
        on("n1;n3;", "count(1)=3 may(0)=7");
        dueFault("n3;n2;a0,3;", 6);
        dueFault("n2;n3;a0,3;", NONE);
        says("all that x, m, h, a tell are of these");
        for (int p = 1; p <= 3; p++) {
            String n = "n" + p + ";";
            for (String a : numbers()) {
                for (String b : numbers()) {
                    boolean fine = isOf(a, 1, p) && isOf(b, 1, p);
                    dueFault(n + "x" + a + "," + b + ";", fine ? NONE : 3);
                    dueFault(n + "m" + a + "," + b + ";", fine ? NONE : 3);
                    dueFault(n + "h" + a + "," + b + ";", isOf(a, 0, 1) && isOf(b, 0, (1 << p) - 1) ? NONE : 3);
                    dueFault(n + "a" + a + "," + b + ";", isOf(a, 0, 3) && isOf(b, 1, p) ? NONE : 3);
                }
            }
        }
        says("xA,B PAINTS A and B (unlike or alike) may not TOUCH");
        on("n3;x1,2;", "touch(1,2)=0 touch(2,1)=0 touch(1,3)=1 touch(3,1)=1 touch(2,3)=1 touch(1,1)=0 paint(0,1)=1 may(1)=4 may(2)=7");
        on("n3;x3,1;", "touch(1,3)=0 touch(3,1)=0 touch(1,2)=1 touch(2,3)=1 paint(0,3)=1 may(1)=2 paint(3,1)=2 may(2)=2");
        on("n3;x3,2;", "touch(2,3)=0 touch(3,2)=0 touch(1,2)=1 touch(3,1)=1 paint(1,2)=1 may(0)=1");
        on("x2,2;", "touch(2,2)=0 touch(1,1)=0 touch(1,2)=1");
        says("(without, unlike ones may, alike ones may not;");
        on("n3;", "touch(1,1)=0 touch(2,2)=0 touch(3,3)=0 touch(1,2)=1 touch(1,3)=1 touch(2,1)=1 touch(2,3)=1 touch(3,1)=1 touch(3,2)=1");
        on("n1;", "touch(1,1)=0");
        says("the last one of x, m of each two counts)");
        on("x1,2;m1,2;", "touch(1,2)=1 touch(2,1)=1");
        on("x1,2;m2,1;", "touch(1,2)=1 touch(2,1)=1");
        on("m2,1;x1,2;", "touch(1,2)=0 touch(2,1)=0");
        on("x1,2;m1,2;x2,1;", "touch(1,2)=0 touch(2,1)=0");
        on("m1,1;x1,1;", "touch(1,1)=0 touch(2,2)=0");
        on("x1,1;m1,1;", "touch(1,1)=1 touch(2,2)=0");
        on("n3;x1,2;x1,3;m1,3;x2,3;m2,2;", "touch(1,2)=0 touch(1,3)=1 touch(2,3)=0 touch(2,2)=1 touch(1,1)=0 touch(3,3)=0");
        says("mA,B they may");
        on("n3;m3,3;", "touch(3,3)=1 touch(1,1)=0 touch(2,2)=0 touch(1,3)=1 paint(0,3)=1 may(1)=7");
        on("m1,1;", "touch(1,1)=1 touch(2,2)=0 paint(0,1)=1 may(1)=3 paint(1,1)=2");
        on("m2,2;", "touch(2,2)=1 touch(1,1)=0 paint(0,2)=1 may(1)=3 paint(1,2)=2");
        on("m1,2;", "touch(1,2)=1 touch(1,1)=0 touch(2,2)=0");
    }

    private static boolean isOf(String number, int from, int to) {
        int n = Integer.parseInt(number);
        return n >= from && n <= to;
    }

    private static void painters() {
        says("hI,S PAINTER I (0, 1) has the PAINTS S (bits, PAINT 1 the lowest;");
        dueFault("h0,1;", NONE);
        dueFault("h1,1;", NONE);
        dueFault("h2,1;", 0);
        for (int set = 0; set < 8; set++) {
            on("n3;h0," + set + ";", "may(0)=" + set);
            String by1 = set == 0 ? " pass()=0" : " may(3)=" + set;
            on("n3;h1," + set + ";", "may(0)=7 paint(0,1)=1 may(3)=" + set + by1);
        }
        on("h0,1;h1,2;", "paint(0,2)=NO paint(0,1)=1 paint(3,1)=NO paint(3,2)=2");
        says("all without;");
        on("n1;", "may(3)=1 paint(0,1)=1 may(3)=1");
        on("n2;", "may(3)=3 paint(0,1)=1 may(3)=3");
        on("n3;", "may(3)=7 paint(0,1)=1 may(3)=7");
        on("n3;h0,1;", "may(3)=1 paint(0,1)=1 may(3)=7");
        says("the last one of each)");
        on("n3;h0,1;h0,6;", "may(3)=6 paint(0,2)=1 may(3)=7");
        on("n3;h0,1;h1,2;h1,4;h0,2;", "may(3)=2 paint(0,2)=1 may(3)=4");
        on("n3;h1,0;h1,5;", "may(3)=7 paint(0,2)=1 may(3)=5");
    }

    private static void oldOnes() {
        says("aS,A STONE S is old, of PAINT A");
        on("r3,3;n3;a0,1;a8,3;a4,2;", "stone(0,0)=1 stone(0,1)=1 stone(8,0)=3 stone(8,1)=1 stone(4,0)=2 stone(4,1)=1 stone(1,0)=0 stone(1,1)=0 count(3)=3");
        dueFault("r3,3;a8,1;", NONE);
        dueFault("r3,3;a9,1;", 5);
        says("(the last one of each)");
        on("n3;a0,1;a0,3;", "stone(0,0)=3 stone(0,1)=1 count(3)=1 may(1)=3");
        on("n3;a0,1;a1,2;a0,2;a1,3;", "stone(0,0)=2 stone(1,0)=3 count(3)=2");
        says("wS STONE S takes no PAINT");
        on("r3,3;w0;w8;", "stone(0,0)=9 stone(0,1)=0 stone(8,0)=9 stone(7,0)=0 may(0)=0 may(8)=0 may(1)=3 paint(0,1)=NO count(0)=9 count(3)=0");
        dueFault("r3,3;w8;", NONE);
        dueFault("r3,3;w9;", 5);
        says("(the last one of a, w counts for each)");
        on("a0,1;w0;", "stone(0,0)=9 stone(0,1)=0 count(3)=0 may(0)=0 may(1)=3");
        on("w0;a0,1;", "stone(0,0)=1 stone(0,1)=1 count(3)=1 may(0)=0 may(1)=2");
        on("w0;a0,1;w0;", "stone(0,0)=9 stone(0,1)=0 count(3)=0");
        on("a0,2;w0;a0,1;w1;", "stone(0,0)=1 stone(1,0)=9 stone(2,0)=0 count(3)=1");
        on("a0,1;w1;w0;a1,1;", "stone(0,0)=9 stone(1,0)=1 may(2)=2");
    }

    private static void faults() {
        says("FAULT: the place (from 0 on) of the first byte of the first ITEM that is not so.");
        dueFault("q", 0);
        dueFault("n4;", 0);
        dueFault("n2;n4;", 3);
        dueFault("n2;r2,2;w4;", 8);
        dueFault("r10,1;n4;w9;", 0);
        dueFault("n2;w4;q;n2;", 3);
        dueFault("n2;r2,", 3);
        dueFault("n02;r01,04;a3,03;", 11);
        dueFault("w0;".repeat(66) + "w", 198);
        dueFault("w0;".repeat(66) + "w0", 198);
        dueFault("w0;".repeat(65) + "a0,3;", 195);
        dueFault("w0;".repeat(66), NONE);
        dueFault("w0;".repeat(30) + "n9;" + "w0;".repeat(30) + "w9;", 90);
        for (int items = 0; items <= 66; items++) {
            dueFault("w0;".repeat(items) + "z;", 3 * items);
        }
    }

    private static void calls512() {
        says("An object is used for at most 512 calls after it has been made; what later calls answer is free.");
        PaintersAtWall x = new PaintersAtWall();
        for (int i = 0; i < 255; i++) {
            due("paint, call " + (2 * i + 1), x.paint(i % 4, i % 2 + 1), 1);
            due("undo, call " + (2 * i + 2), x.undo(), 0);
        }
        due("paint, call 511", x.paint(3, 2), 1);
        due("count, call 512", x.count(3), 1);
    }

    private static void laid() {
        says("LAID is a TEXT without FAULT,");
        run(RICH + "text(q)=27 fault()=26 lay()=NO wipe()=27 text(r1,9)=4 lay()=NO wipe()=4 text(r1,9;)=5 lay()=9");
        run(RICH + "text(r1,4;)=31 fault()=26 lay()=NO");
        says("by which no old ones TOUCH that may not");
        clash("a0,1;a1,1;", true);
        clash("a0,1;a1,2;", false);
        clash("a0,1;a2,1;", false);
        clash("a3,2;a2,2;", true);
        clash("x1,2;a0,1;a1,2;", true);
        clash("a0,1;a1,2;x2,1;", true);
        clash("a0,1;a1,2;x2,1;m1,2;", false);
        clash("m1,1;a0,1;a1,1;", false);
        clash("a0,1;a1,1;m1,1;", false);
        clash("m1,1;a0,1;a1,1;x1,1;", true);
        clash("a0,1;a1,1;a1,2;", false);
        clash("a0,1;a1,1;w1;", false);
        clash("a0,1;w0;a1,1;", false);
        clash("h0,0;h1,0;a0,1;a1,2;", false);
        clash("r3,3;n3;a2,1;a3,1;", false);
        clash("r3,3;n3;a4,3;a0,3;a2,3;a6,3;a8,3;", false);
        clash("r3,3;n3;a4,3;a7,3;", true);
        clash("r3,3;n3;a5,3;a4,3;", true);
        clash("r9,1;n3;a7,2;a8,2;", true);
        clash("r1,9;n3;a7,2;a8,2;", true);
        clash("r2,4;a3,1;a4,1;", false);
        clash("r2,4;a3,1;a7,1;", true);
        says("(NO else;");
        run(RICH + "wipe()=26 text(a0,1;a1,1;)=10 fault()=NONE lay()=NO judge()=1 undo()=3 back()=0");
        says("an empty one at first).");
        due("what can be seen at first", Sight.of(List.of()).compareTo(Sight.of(List.of(new Call("lay()")))), 0);
        run("count(0)=4 count(1)=2 count(2)=0 count(3)=0 count(4)=0 count(5)=0 count(6)=0 count(7)=0 count(8)=0 fault()=NONE lay()=4");
    }

    private static void clash(String text, boolean clashes) {
        run("text(" + text + ") fault()=NONE lay()" + (clashes ? "=NO" : ""));
        run(RICH + "wipe()=26 text(" + text + ") fault()=NONE lay()" + (clashes ? "=NO count(0)=6" : " undo()=NO"));
    }

    // ---- 2: turns

    private static void turns() {
        says("PAINTERS 0 and 1 paint by turns, 0 first.");
        run("count(2)=0 paint(0,1)=1 count(2)=1 paint(1,2)=2 count(2)=0 paint(2,1)=3 count(2)=1 paint(3,2)=4 count(2)=0");
        on("h0,1;h1,2;", "may(0)=1 paint(0,1)=1 may(3)=2");
        on("a0,1;", "count(2)=0");
        says("He whose turn it is MAY paint a STONE with a PAINT, if it has none");
        on("n3;m1,1;m2,2;m3,3;", "paint(0,1)=1 may(0)=0 paint(0,1)=NO paint(0,2)=NO paint(0,3)=NO may(1)=7");
        on("n3;m1,1;m2,2;m3,3;a0,1;", "may(0)=0 paint(0,1)=NO paint(0,2)=NO paint(0,3)=NO may(1)=7");
        says("and takes some,");
        on("n3;w1;", "may(1)=0 paint(1,1)=NO paint(1,2)=NO paint(1,3)=NO may(0)=7 may(2)=7");
        on("r1,1;w0;", "may(0)=0 paint(0,1)=NO");
        says("he has that PAINT,");
        on("n3;h0,5;h1,2;", "may(0)=5 paint(0,2)=NO paint(0,3)=1 may(3)=2 paint(3,1)=NO paint(3,3)=NO paint(3,2)=2 may(1)=1");
        on("h0,0;", "may(0)=0 paint(0,1)=NO paint(0,2)=NO");
        says("and it may TOUCH the PAINT of each STONE that TOUCHES this one and has some;");
        on("r3,3;n3;a1,1;a3,2;", "may(0)=4 may(2)=6 may(4)=4 may(5)=7 may(6)=5 may(7)=7 may(8)=7");
        on("r3,3;n3;a1,1;a3,2;a5,3;", "may(4)=0 paint(4,1)=NO paint(4,2)=NO paint(4,3)=NO may(0)=4 may(2)=2");
        on("r3,3;n3;a4,1;", "may(0)=7 may(1)=6 may(2)=7 may(3)=6 may(5)=6 may(6)=7 may(7)=6 may(8)=7");
        on("r1,3;n3;a1,1;x1,2;m1,1;", "may(0)=5 may(2)=5 paint(0,2)=NO paint(0,1)=2");
        on("r2,2;n3;", "paint(0,1)=1 paint(3,2)=2 may(1)=4 may(2)=4 paint(1,1)=NO paint(1,2)=NO paint(1,3)=3");
        on("r1,3;w1;", "paint(0,1)=1 may(2)=3 paint(2,1)=2");
        says("then it is the other one's turn.");
        on("r1,9;n1;m1,1;", "paint(8,1)=1 count(2)=1 paint(0,1)=2 count(2)=0 paint(0,1)=NO count(2)=0 paint(9,1)=BAD count(2)=0");
        says("He is STUCK, if he MAY paint none;");
        on("r1,2;n1;", "pass()=NO paint(0,1)=1 may(1)=0 pass()=0");
        on("r1,1;n3;h0,4;", "pass()=NO");
        on("r1,9;n3;h0,4;w0;w1;w2;w3;w4;w5;w6;w7;", "may(8)=4 pass()=NO");
        on("r1,9;n3;h0,4;w0;w1;w2;w3;w4;w5;w6;w7;w8;", "pass()=1");
        on("h0,0;", "pass()=1 pass()=NO");
        on("h1,0;", "pass()=NO paint(0,1)=1 pass()=0 pass()=NO");
        on("r1,1;", "paint(0,2)=1 pass()=0");
        on("r1,3;n3;h0,3;a0,1;a2,2;", "may(1)=0 pass()=1 may(1)=4 pass()=NO");
        says("he can PASS then:");
        on("r1,1;w0;", "pass()=1 pass()=0 pass()=1 count(5)=3");
        says("it is the other one's turn.");
        on("r1,2;n1;", "paint(0,1)=1 count(2)=1 pass()=0 count(2)=0 pass()=1 count(2)=1 count(3)=1");
    }

    private static void rained() {
        String nine = "r1,9;n3;a8,1;";
        String four = "paint(3,1)=2 paint(0,2)=3 paint(5,3)=4 paint(1,1)=5 ";
        says("RAIN takes the PAINT off the n (1 to 3) STONES that were painted last");
        on(nine, four + "rain(1)=1 stone(1,0)=0 stone(5,0)=3 count(3)=4");
        on(nine, four + "rain(2)=2 stone(1,0)=0 stone(5,0)=0 stone(0,0)=2 count(3)=3");
        on(nine, four + "rain(3)=3 stone(0,0)=0 stone(3,0)=1 count(3)=2");
        on(nine, four + "rain(0)=BAD rain(4)=BAD");
        on(nine, "paint(0,1)=2 paint(2,2)=3 rain(2)=2 paint(2,3)=2 paint(0,3)=3 rain(1)=1 stone(0,0)=0 stone(2,0)=3");
        on("r3,3;n1;m1,1;", "paint(8,1)=1 paint(7,1)=2 paint(6,1)=3 paint(5,1)=4 paint(4,1)=5 paint(3,1)=6 paint(2,1)=7 paint(1,1)=8 paint(0,1)=9"
            + " rain(3)=3 may(0)=1 may(2)=1 may(3)=0 rain(3)=3 may(5)=1 may(6)=0 rain(3)=3 may(8)=1 rain(1)=NO");
        says("of those that have some");
        on(nine, four + "rain(1)=1 rain(1)=1 stone(5,0)=0 stone(0,0)=2 rain(1)=1 stone(0,0)=0 stone(3,0)=1 rain(1)=1 stone(3,0)=0");
        on(nine, four + "rain(2)=2 paint(1,3)=4 rain(2)=2 stone(1,0)=0 stone(0,0)=0 stone(3,0)=1");
        says("and are not old");
        on(nine, "rain(1)=NO paint(3,1)=2 rain(2)=1 stone(8,0)=1 stone(8,1)=1 rain(3)=NO");
        on("a0,1;a1,2;a2,1;a3,2;", "rain(1)=NO rain(3)=NO count(8)=0");
        says("(off all these, if they are fewer);");
        on(nine, "paint(3,1)=2 rain(3)=1 count(3)=1");
        on(nine, "paint(3,1)=2 paint(0,2)=3 rain(3)=2 count(3)=1");
        on(nine, "paint(3,1)=2 paint(0,2)=3 paint(5,1)=4 rain(3)=3 count(3)=1 rain(1)=NO");
        on(nine, four + "rain(3)=3 rain(3)=1 rain(3)=NO");
        says("whose turn it is stays.");
        on(nine, four + "count(2)=0 rain(1)=1 count(2)=0 rain(2)=2 count(2)=0 paint(0,1)=3 count(2)=1 rain(1)=1 count(2)=1 rain(3)=1 count(2)=1");
    }

    private static void undone() {
        String nine = "r1,9;n3;a8,1;";
        String four = "paint(3,1)=2 paint(0,2)=3 paint(5,3)=4 paint(1,1)=5 ";
        says("UNDONE is the latest paint(), rain(), pass()");
        on(nine, "undo()=NO paint(3,1)=2 undo()=0 stone(3,0)=0 count(2)=0 count(3)=1 undo()=NO");
        on(nine, four + "rain(3)=3 undo()=4 stone(0,0)=2 stone(5,0)=3 stone(1,0)=1 count(8)=4 rain(1)=1 stone(1,0)=0 rain(1)=1 stone(5,0)=0");
        on("h0,0;", "pass()=1 undo()=0 count(2)=0 pass()=1");
        on(nine, "paint(3,1)=2 rain(1)=1 paint(3,2)=2 undo()=2 stone(3,0)=0 undo()=1 stone(3,0)=1 count(2)=1 undo()=0 stone(3,0)=0 count(2)=0");
        on(nine, "paint(3,1)=2 paint(3,1)=NO paint(9,1)=BAD pass()=NO rain(4)=BAD tell(0,1)=1 keep()=1 write(1,0) wipe() noRow()=1 count(5)=1 undo()=0");
        on(nine, "paint(3,1)=2 paint(4,2)=3 undo()=1 undo()=0 undo()=NO");
        says("(the last 8 can be).");
        String nineTimes = "paint(0,1) paint(1,1) paint(2,1) paint(3,1) paint(4,1) paint(5,1) paint(6,1) paint(7,1)=8 count(5)=8 ";
        String undone = "undo()=7 undo()=6 undo()=5 undo()=4 undo()=3 undo()=2 undo()=1 undo()=0 undo()=NO ";
        on("r3,3;n1;m1,1;", nineTimes + undone + "count(3)=0 count(2)=0");
        on("r3,3;n1;m1,1;", nineTimes + "paint(8,1)=9 count(5)=8 " + undone + "count(3)=1 stone(0,0)=1 count(2)=1");
        on("r3,3;n1;m1,1;", nineTimes + "paint(8,1)=9 pass()=0 rain(3)=3 count(5)=8 " + undone + "count(3)=3 stone(2,0)=1 count(2)=1");
        on("r3,3;n1;m1,1;", nineTimes + "undo()=7 undo()=6 undo()=5 paint(8,1)=6 count(5)=6 rain(1)=1 count(5)=7 undo()=6 stone(8,0)=1");
        on("r1,1;w0;", "pass()=1 pass() pass() pass() pass() pass() pass() pass()=0 pass()=1 pass()=0 pass()=1 count(5)=8 " + undone + "count(2)=1");
        StringBuilder eachUndone = new StringBuilder(nineTimes + "paint(8,1)=9 rain(1)=1 paint(8,1)=9 ");
        int[] left = {8, 9, 8, 7, 6, 5, 4, 3};
        for (int i = 0; i < 8; i++) {
            eachUndone.append("undo()=").append(7 - i).append(" count(3)=").append(left[i]).append(" count(8)=").append(left[i]).append(" stone(")
                .append(left[i] - 1).append(",0)=1 count(2)=").append(i == 0 ? 1 : left[i] % 2).append(' ');
        }
        on("r3,3;n1;m1,1;", eachUndone + "undo()=NO");
    }

    private static void toldRows() {
        says("A told row (9 at most,");
        run("tell(0,1)=1 tell(1,1)=2 tell(2,1)=3 tell(3,1)=4 tell(0,2)=5 tell(1,2)=6 tell(2,2)=7 tell(3,2)=8 tell(0,1)=9 tell(0,1)=FULL count(4)=9"
            + " noRow()=9 tell(0,1)=1");
        says("each a STONE and a PAINT)");
        on("r1,3;a0,1;w1;h0,0;h1,0;", "tell(0,1)=1 tell(1,2)=2 tell(2,2)=3 tell(2,2)=4 tell(3,1)=BAD tell(2,3)=BAD tell(2,0)=BAD tell(-1,1)=BAD judge()=0");
        says("is JUDGED, each painted as it comes, from now on,");
        run("tell(0,1) tell(1,1) judge()=1 noRow() tell(0,1) tell(0,2) judge()=1 noRow() tell(0,1) tell(1,2) tell(2,2) judge()=2 count(3)=0");
        run("tell(0,1) tell(1,2) judge()=NONE paint(0,1)=1 judge()=0 undo() judge()=NONE paint(3,1) paint(2,2) judge()=1 rain(1) judge()=NONE");
        on("a0,1;", "tell(1,1) judge()=0 noRow() tell(1,2) judge()=NONE");
        on("r1,3;w1;", "tell(0,1) tell(2,1) judge()=NONE tell(1,1) judge()=2");
        says("by turns:");
        on("h0,1;h1,2;", "tell(0,1) tell(3,2) judge()=NONE tell(2,1) judge()=NONE tell(1,1) judge()=3 paint(0,1) judge()=0");
        on("h0,1;h1,2;", "tell(0,2) judge()=0 paint(3,1) judge()=NONE tell(1,2) judge()=1");
        on("h0,1;h1,2;", "paint(3,1) tell(0,2) judge()=NONE tell(1,1) judge()=NONE tell(2,2) judge()=NONE");
        on("h0,1;h1,2;", "paint(3,1) tell(0,2) tell(2,2) judge()=1");
        on("h0,1;h1,2;", "paint(3,1) tell(0,1) judge()=0");
        on("h1,0;", "tell(0,1) judge()=NONE tell(1,2) judge()=1 tell(2,1) judge()=1");
        says("the place of the first that MAY not be;");
        run("tell(0,1) tell(0,1) tell(0,1) judge()=1");
        on("r3,3;n1;m1,1;", "tell(0,1) tell(1,1) tell(2,1) tell(3,1) tell(4,1) tell(5,1) tell(6,1) tell(7,1) tell(7,1) judge()=8");
        says("none.");
        run("judge()=NONE paint(0,1) judge()=NONE");
        on("r3,3;n1;m1,1;", "tell(0,1) tell(1,1) tell(2,1) tell(3,1) tell(4,1) tell(5,1) tell(6,1) tell(7,1) tell(8,1) judge()=NONE"
            + " tell(0,1)=FULL tell(8,1)=FULL judge()=NONE noRow()=9");
    }

    // ---- 3: the whole wall, games

    private static void wholeWall() {
        says("DONE is the wall, if all STONES that take PAINT have some.");
        on("r1,1;w0;", "ways()=1 white(0,0)=1 white(1,0)=1");
        on("r1,3;a0,1;w1;", "white(0,0)=1 paint(2,1)=2 ways()=1 white(0,0)=1 white(1,0)=1");
        on("r1,2;a0,1;a1,2;", "ways()=1 white(0,0)=1 white(1,0)=1 pass()=1");
        on("r1,2;n1;", "paint(0,1)=1 ways()=0 white(0,0)=0 white(1,0)=0");
        says("WAYS: in how many ways PAINTS can be given to all STONES that have none and take some,");
        on("r3,3;n3;m1,1;m2,2;m3,3;", "ways()=19683 paint(4,3)=1 ways()=6561");
        on("r1,9;n3;", "ways()=768");
        on("r1,1;n3;", "ways()=3");
        on("r2,2;n3;", "ways()=18");
        on("r3,3;n3;", "ways()=246");
        on("r1,4;w2;", "ways()=4 paint(0,1)=1 ways()=2 paint(3,1)=2 ways()=1");
        says("so that none TOUCH that may not,");
        on("r1,2;", "ways()=2");
        on("r1,2;x1,2;", "ways()=0");
        on("r1,2;x1,2;m1,1;m2,2;", "ways()=2");
        on("r1,2;n3;x1,2;", "ways()=4");
        on("r1,3;n3;a0,1;", "ways()=4 paint(2,1)=2 ways()=2 rain(1) paint(2,2) ways()=1");
        on("r1,3;a0,1;a2,2;", "ways()=0");
        says("whoever has these PAINTS");
        on("r1,2;h0,0;h1,0;", "ways()=2");
        on("r1,2;n3;h0,1;h1,1;", "ways()=6 paint(0,1)=1 ways()=2");
        says("(1, if it is DONE).");
        on("r1,2;", "paint(0,1) paint(1,2) ways()=1");
        on("r1,2;w0;w1;", "ways()=1");
        says("FEWEST: how many unlike PAINTS there are on the whole wall at the fewest by one of these;");
        on("r1,1;n3;", "fewest()=1");
        on("r1,9;n3;", "fewest()=2");
        on("r1,5;n3;", "paint(0,1) paint(2,2)=2 fewest()=3 paint(4,3)=3 fewest()=3");
        on("r1,3;n3;a1,3;", "fewest()=2");
        on("r3,3;n3;m2,2;", "fewest()=1 paint(0,2)=1 fewest()=1 paint(1,3)=2 fewest()=2");
        on("r1,3;n3;m2,2;w1;a0,1;", "fewest()=1 paint(2,3)=2 fewest()=2");
        on("r1,2;n3;m3,3;h0,1;h1,1;", "fewest()=1");
        on("r2,2;w0;w1;w2;w3;", "fewest()=0");
        on("r1,1;a0,2;", "fewest()=1");
        on("r3,3;n3;", "paint(8,3) fewest()=2 paint(6,3) fewest()=2 paint(2,3) fewest()=2 paint(0,1) fewest()=3");
        on("r3,3;n3;", "paint(8,2) fewest()=2 paint(6,2) fewest()=2 paint(5,1) fewest()=2 paint(7,3) fewest()=3");
        says("none.");
        on("r1,3;", "paint(0,1) paint(2,2) fewest()=NONE");
        on("r1,2;x1,2;", "fewest()=NONE");
    }

    private static void scraped() {
        says("SCRAPE: of sets of STONES (bits) that have PAINT and are not old,");
        on("r1,3;a0,1;", "paint(2,2)=2 scrape(0)=1 scrape(1)=4");
        on("r1,5;a0,1;a4,2;", "scrape(0)=NONE scrape(1)=NONE");
        on("r1,5;a4,2;", "paint(0,1) paint(2,1) scrape(0)=2 scrape(1)=5");
        says("such that there are WAYS, if they had none,");
        run("scrape(0)=0 scrape(1)=0 paint(0,1) scrape(0)=0 scrape(1)=0");
        on("r3,3;", "scrape(0)=0 scrape(1)=0 matters()=0 ways()=2");
        on("r1,9;n3;", "scrape(0)=0 scrape(1)=0 matters()=0 paint(8,3) paint(6,1) scrape(0)=0");
        on("r1,2;", "paint(0,1) paint(1,2) scrape(0)=0 scrape(1)=0");
        on("r1,7;", "paint(0,1) paint(2,2) paint(4,1) paint(6,2) scrape(0)=2 scrape(1)=17");
        says("that of fewest,");
        on("r1,5;", "paint(0,1) paint(2,1) paint(4,2) scrape(0)=1 scrape(1)=16");
        on("r1,9;", "paint(0,1) paint(2,2) paint(4,1) paint(6,2) paint(8,1) scrape(0)=2 scrape(1)=68");
        says("of several the lowest:");
        on("r1,3;", "paint(2,2) paint(0,1) scrape(0)=1 scrape(1)=1");
        on("r3,3;", "paint(8,2) paint(6,1) scrape(0)=1 scrape(1)=64");
        says("how many; it;");
        on("r1,3;n3;x1,3;x2,3;", "paint(0,1) paint(2,2) scrape(0)=1 scrape(1)=1 count(3)=2");
        says("none.");
        on("r1,3;a0,1;a2,2;", "scrape(0)=NONE scrape(1)=NONE");
        on("r1,3;x1,2;", "scrape(0)=NONE paint(0,1) scrape(0)=NONE scrape(1)=NONE");
        says("MATTERS: if there are no WAYS, the STONES (bits) that have PAINT and are not old,");
        on("r1,3;", "paint(0,1) paint(2,2) matters()=5");
        on("r1,3;a0,1;", "paint(2,2) matters()=4");
        on("r1,3;a0,1;a2,2;", "matters()=0");
        on("r1,9;w0;w1;w2;w3;w4;w5;", "paint(8,1) paint(6,2) matters()=320");
        says("by each of which alone, had it none, there were some;");
        on("r1,5;", "paint(0,1) paint(2,1) paint(4,2) matters()=16");
        on("r1,5;", "paint(0,1) paint(2,2) paint(4,1) matters()=4");
        on("r1,7;", "paint(0,1) paint(2,2) paint(4,1) paint(6,2) matters()=0");
        on("r1,3;x1,2;", "paint(0,1) matters()=0");
        says("else 0.");
        run("matters()=0 paint(0,1) matters()=0");
        on("r1,2;", "paint(0,1) paint(1,2) matters()=0");
    }

    private static String beer(int value, String painting) {
        return " beer(0)=" + value + " beer(1)=" + painting + " ";
    }

    private static String white(int d, int value, String painting) {
        return " white(" + d + ",0)=" + value + " white(" + d + ",1)=" + painting + " ";
    }

    private static void beers() {
        says("Both go on painting by turns till he whose turn it is is STUCK. BEER: he pays, and neither would.");
        on("r1,1;w0;", beer(0, "NONE"));
        on("r1,1;", beer(1, "1") + "paint(0,1)=1" + beer(0, "NONE"));
        // Who is STUCK pays at once, though the other one could go on.
        on("h0,0;", beer(0, "NONE") + "pass()=1" + beer(1, "1"));
        on("r1,2;h1,0;", beer(1, "1") + "paint(0,1)=1" + beer(0, "NONE") + "pass()=0" + beer(1, "12"));
        says("By best play of both: 1, if he whose turn it is now does not pay, 0;");
        on("r1,2;n1;", beer(1, "1"));
        on("r1,2;n1;m1,1;", beer(0, "NONE") + "paint(1,1)=1" + beer(1, "1"));
        on("r1,3;n1;", beer(1, "11") + "paint(0,1)=1" + beer(1, "21"));
        on("r1,4;n1;", beer(0, "NONE") + "paint(1,1)=1" + beer(1, "31"));
        on("r1,5;n1;", beer(1, "21"));
        for (int stones = 1; stones <= 9; stones++) {
            on("r1," + stones + ";n1;m1,1;", beer(stones % 2, stones % 2 == 1 ? "1" : "NONE"));
        }
        on("r3,3;n3;m1,1;m2,2;m3,3;", beer(1, "1") + "paint(8,3)=1" + beer(0, "NONE"));
        on("r2,4;n2;m1,1;m2,2;", beer(0, "NONE") + "paint(7,2)=1" + beer(1, "1"));
        // By rain the other one is to paint the same wall.
        on("r1,2;h1,1;x1,2;m1,1;", beer(1, "2") + "paint(0,2) rain(1)=1 count(2)=1" + beer(0, "NONE"));
        says("the lowest painting by which he does not, as 10 times its STONE and its PAINT;");
        on("r1,1;n3;", beer(1, "1"));
        on("r1,1;n3;h0,6;", beer(1, "2"));
        on("r1,1;n3;h0,4;", beer(1, "3"));
        on("r1,9;n3;w0;w1;w2;w3;w4;w5;w6;w7;h0,4;", beer(1, "83"));
        // Stone 0 with 1 leaves the other one a stone, with 2 it does not: the lower stone counts, not the lower paint.
        on("r1,2;h1,1;x1,2;m1,1;", beer(1, "2"));
        says("none.");
        on("r1,2;n1;m1,1;", "beer(1)=NONE beer(0)=0");
        on("r1,1;", "paint(0,1) beer(1)=NONE beer(0)=0");
    }

    private static void whites() {
        says("WHITE: PAINTER d would have it DONE then, the other one not.");
        on("r1,2;", white(0, 1, "1") + white(1, 1, "NONE"));
        on("r1,2;n1;", white(0, 0, "NONE") + white(1, 0, "1"));
        on("r1,3;", white(0, 1, "11") + white(1, 1, "NONE") + "paint(0,1)=1" + white(0, 0, "22") + white(1, 1, "12"));
        on("r1,2;h1,0;", white(0, 0, "NONE") + white(1, 0, "1") + "paint(0,1)" + white(0, 0, "NONE") + white(1, 0, "NONE"));
        says("By best play of both: 1, if it comes to be DONE, 0;");
        on("r1,1;", white(0, 1, "1") + white(1, 1, "NONE") + "paint(0,1)=1" + white(0, 1, "NONE") + white(1, 1, "NONE"));
        on("r1,1;w0;", white(0, 1, "NONE") + white(1, 1, "NONE"));
        on("r1,1;h0,0;", white(0, 0, "NONE") + white(1, 0, "NONE") + "pass()=1" + white(0, 1, "NONE") + white(1, 1, "1"));
        for (int stones = 1; stones <= 9; stones++) {
            on("r" + stones + ",1;n1;m1,1;", white(0, 1, "1") + white(1, 1, "NONE"));
        }
        on("r3,3;n3;m1,1;m2,2;m3,3;", white(0, 1, "1") + white(1, 1, "NONE") + "paint(8,3)=1" + white(0, 1, "NONE") + white(1, 1, "1"));
        // By rain the other one is to paint the same wall.
        on("r1,2;h1,1;x1,2;m1,1;", white(0, 1, "1") + white(1, 0, "2") + "paint(0,2) rain(1)=1 count(2)=1" + white(0, 1, "NONE") + white(1, 1, "1"));
        says("the lowest painting by which he whose turn it is now has his will;");
        on("r1,1;n3;h0,6;", white(0, 1, "2") + white(1, 1, "NONE"));
        on("r1,9;n3;w0;w1;w2;w3;w4;w5;w6;w7;h0,4;", white(0, 1, "83"));
        on("r1,2;n1;", "white(1,1)=1 white(0,1)=NONE paint(1,1) white(0,1)=NONE white(1,1)=NONE");
        on("r1,3;", "paint(1,2)" + white(0, 1, "NONE") + white(1, 1, "1"));
        on("r1,3;", "paint(2,2)" + white(0, 0, "1") + white(1, 1, "2"));
        says("none (he has it not,");
        on("r1,2;", "white(1,1)=NONE");
        on("r1,2;n1;", "white(0,1)=NONE");
        says("or is STUCK).");
        on("h0,0;", white(0, 0, "NONE") + white(1, 0, "NONE"));
        on("r1,2;n1;", "paint(0,1)" + white(0, 0, "NONE") + white(1, 0, "NONE"));
        on("r1,2;", "paint(0,1) paint(1,2)" + white(0, 1, "NONE") + white(1, 1, "NONE"));
    }

    // ---- 4: orders, lots

    private static void orders() {
        says("ORDERS: in how many orders those STONES that have PAINT");
        run("orders()=1");
        int all = 1;
        StringBuilder painted = new StringBuilder();
        for (int i = 0; i < 9; i++) {
            all *= i + 1;
            painted.append(" paint(").append((4 * i) % 9).append(",1)=").append(i + 1).append(" orders()=").append(all);
        }
        on("r3,3;n1;m1,1;", painted.toString());
        on("r3,3;n1;m1,1;", "paint(0,1) paint(1,1) paint(2,1) orders()=6 rain(1) orders()=2 rain(3) orders()=1");
        says("and are not old");
        on("r1,4;n3;a0,1;a3,2;", "orders()=1 paint(1,2)=3 orders()=1 paint(2,3)=4 orders()=2");
        on("r1,4;n3;a0,3;h0,3;h1,3;", "orders()=1 paint(3,1)=2 orders()=1");
        says("can have been painted as they are by turns, PAINTER 0 first,");
        on("r1,4;h0,1;h1,2;", "paint(0,1) orders()=1 paint(3,2) orders()=1 paint(2,1) orders()=2 paint(1,2) orders()=4");
        // Rain took what 0 painted: what is left, 1 painted alone.
        on("r1,3;h0,1;h1,2;", "paint(0,1) rain(1) paint(1,2)=1 orders()=0");
        // Rain took what 1 painted: two of 0's and none of 1's.
        on("r1,3;h0,1;h1,2;", "paint(0,1) paint(1,2) rain(1) paint(2,1)=2 orders()=0");
        says("each by one who has that PAINT.");
        on("r1,4;n2;h0,3;h1,2;", "paint(0,1) paint(1,2) orders()=1 paint(2,1) orders()=2 paint(3,2) orders()=4");
        on("r1,4;n3;h0,5;h1,6;", "paint(0,3) paint(3,3) orders()=2 paint(2,1) orders()=4");
        on("r1,4;n3;h0,3;h1,6;w1;", "paint(0,1) paint(2,2) paint(3,1) orders()=2");
        says("ONLY: the STONES (bits) that a PAINTER painted in each of these;");
        on("r1,4;h0,1;h1,2;", "paint(0,1) only(0)=1 only(1)=0 paint(3,2) only(0)=1 only(1)=8 paint(2,1) only(0)=5 only(1)=8 paint(1,2) only(0)=5 only(1)=10");
        on("r1,3;", "paint(0,1) only(0)=1 only(1)=0 paint(1,2) only(0)=0 only(1)=0 paint(2,1) only(0)=0 only(1)=0");
        on("r1,4;h0,3;h1,2;", "paint(0,1) paint(1,2) only(0)=1 only(1)=2 paint(2,1) only(0)=5 only(1)=2");
        on("r1,4;h0,3;h1,2;", "paint(0,2) paint(2,2) only(0)=0 only(1)=0 paint(3,1) only(0)=8 only(1)=0");
        on("r1,5;n3;h0,3;h1,6;", "paint(0,1) paint(2,3) paint(4,2) only(0)=17 only(1)=4");
        on("r1,7;n3;h0,3;h1,6;", "paint(0,1) paint(2,3) paint(4,2) paint(6,2) only(0)=1 only(1)=4 orders()=8");
        on("r1,7;n3;h0,3;h1,6;", "paint(0,1) paint(2,3) paint(4,2) paint(6,3) only(0)=17 only(1)=68 orders()=4");
        on("r1,4;h0,1;h1,3;", "paint(0,1) paint(3,1) only(0)=0 only(1)=0 paint(2,1)=NO paint(1,1)=NO rain(1) paint(2,1) only(0)=0 only(1)=0");
        on("r3,3;n2;h0,1;h1,3;", "paint(8,1) paint(7,2) only(0)=256 only(1)=128");
        on("r1,4;a0,1;h0,1;h1,2;", "only(0)=0 paint(3,1) only(0)=8 only(1)=0 paint(2,2) only(0)=8 only(1)=4");
        says("0, if there are none.");
        run("only(0)=0 only(1)=0");
        on("r1,3;h0,1;h1,2;", "paint(0,1) rain(1) paint(1,2)=1 only(0)=0 only(1)=0");
        on("r1,3;h0,1;h1,2;", "paint(0,1) paint(1,2) rain(1) paint(2,1)=2 only(0)=0 only(1)=0");
    }

    /** The chances, above and below, for n = 0, 1, 2. */
    private static String odds(int... parts) {
        StringBuilder s = new StringBuilder(" ");
        for (int i = 0; i < 6; i++) {
            s.append("odds(").append(i / 2).append(',').append(i % 2).append(")=").append(parts[i]).append(' ');
        }
        return s.toString();
    }

    private static void lots() {
        says("By LOT he whose turn it is paints one of all that MAY be, each STONE with each PAINT alike likely, till one is STUCK.");
        on("r1,3;n1;", odds(0, 1, 0, 1, 2, 3));
        on("r1,5;n1;", odds(0, 1, 0, 1, 8, 15));
        // Of (1, 1), (2, 1), (2, 2) the last one alone leaves 0, who has 1 alone, nothing.
        on("r1,3;h0,1;x1,2;m1,1;", "paint(0,1)" + odds(0, 1, 1, 3, 1, 3));
        says("ODDS: the chance that it is PAINTER 0 who is,");
        on("h0,0;", odds(1, 1, 1, 1, 1, 1));
        on("r1,1;", "paint(0,1)" + odds(0, 1, 0, 1, 0, 1) + "pass()=0" + odds(1, 1, 1, 1, 1, 1));
        on("r1,2;n1;", odds(0, 1, 0, 1, 0, 1));
        says("n (0 to 2) turns from now at the latest,");
        on("r1,1;w0;", odds(1, 1, 1, 1, 1, 1));
        on("r1,2;n1;m1,1;", odds(0, 1, 0, 1, 1, 1) + "paint(0,1)" + odds(0, 1, 1, 1, 1, 1) + "paint(1,1)" + odds(1, 1, 1, 1, 1, 1));
        on("r1,4;n1;m1,1;", odds(0, 1, 0, 1, 0, 1));
        on("r1,3;n1;m1,1;h0,1;", "paint(0,1)" + odds(0, 1, 0, 1, 0, 1));
        on("r3,3;n3;", odds(0, 1, 0, 1, 0, 1));
        run("odds(-1,0)=BAD odds(3,0)=BAD");
        says("in lowest terms.");
        on("r1,4;n1;", odds(0, 1, 0, 1, 1, 1));
        on("r1,2;n3;w1;h1,0;", odds(0, 1, 0, 1, 0, 1));
        on("r1,2;n2;h1,1;", odds(0, 1, 0, 1, 1, 2));
        on("r1,2;n3;h1,3;x1,2;x1,3;x2,3;m1,1;m2,2;", odds(0, 1, 0, 1, 2, 3));
        evenings();
    }

    private static void evenings() {
        says("An EVENING by z (0 to 9999):");
        on("r1,3;n1;", "evening(-1,0)=BAD evening(0,0)=1 evening(0,1)=1 evening(9999,0)=0 evening(9999,1)=2 evening(10000,0)=BAD");
        says("in turn k from now on (0 first)");
        for (int z = 0; z < 300; z++) {
            // What is painted already is no turn: k is 0 again. Of stones 2 to 6 the game goes on as of 0 to 4.
            int more = ofFive(z);
            on("r1,7;n1;", "paint(0,1)=1 evening(" + z + ",1)=" + (1 + more) + " evening(" + z + ",0)=" + (1 + more) % 2);
        }
        says("that painting of all that MAY be, by STONE, then PAINT,");
        for (int z = 0; z < 300; z++) {
            // Of (0, 1), (0, 2), (1, 1), (1, 2) those with 2 leave nothing.
            int at = drawn(z, 0, 4);
            on("r1,2;h1,1;x1,2;m1,1;", "evening(" + z + ",1)=" + (2 - at % 2) + " evening(" + z + ",0)=" + at % 2);
        }
        says("which has the number ((x times x) modulo 65521) modulo how many these are, x being 7919 z, 6151 k and 1 together,");
        PaintersAtWall three = written("r1,3;n1;"), five = written("r1,5;n1;");
        for (int z = 0; z <= 9999; z++) {
            if (z % 100 == 0) {
                three = written("r1,3;n1;");
                five = written("r1,5;n1;");
                three.lay();
                five.lay();
            }
            due("evening(" + z + ", 0) of three", three.evening(z, 0), drawn(z, 0, 3) == 1 ? 1 : 0);
            due("evening(" + z + ", 1) of three", three.evening(z, 1), drawn(z, 0, 3) == 1 ? 1 : 2);
            due("evening(" + z + ", 0) of five", five.evening(z, 0), ofFive(z) % 2);
            due("evening(" + z + ", 1) of five", five.evening(z, 1), ofFive(z));
        }
        says("till one is STUCK:");
        on("h0,0;", "evening(0,0)=0 evening(0,1)=0 pass()=1");
        on("r1,2;h1,0;", "evening(0,0)=1 evening(0,1)=1 paint(0,1) evening(0,0)=1 evening(0,1)=1 pass()=0 evening(0,0)=1 evening(0,1)=2");
        on("r3,3;n3;m1,1;m2,2;m3,3;", "evening(0,0)=1 evening(0,1)=9 evening(9999,0)=1 evening(9999,1)=9");
        says("who it is; how many STONES have PAINT then.");
        for (String text : new String[] {"", "r3,3;n3;", "r3,3;n3;m1,1;h0,5;h1,6;", "r1,9;n3;x1,2;", "r9,1;n2;m2,2;h1,1;", "r2,4;n3;x1,2;x1,3;m2,2;a7,1;",
            "r3,3;n3;h0,4;h1,3;w4;", "r3,3;n1;", "r1,9;n1;", "r1,9;n3;x3,1;x3,2;h0,6;"}) {
            for (int z = 0; z < 60; z++) {
                dueAsPainted(text, 163 * z);
            }
        }
        on("r1,1;w0;", "evening(5,0)=0 evening(5,1)=0 pass()=1 evening(5,0)=1 evening(5,1)=0");
        on("r1,3;n1;a0,1;", "evening(7,0)=1 evening(7,1)=2");
        on("r1,4;n1;", "paint(0,1)=1 evening(7,0)=0 evening(7,1)=2");
    }

    private static int drawn(int z, int k, int of) {
        long x = 7919L * z + 6151L * k + 1;
        return (int) (x * x % 65521 % of);
    }

    /** An EVENING ends as a wall does on which what is drawn is painted. */
    private static void dueAsPainted(String text, int z) {
        PaintersAtWall asked = written(text), painted = written(text);
        asked.lay();
        painted.lay();
        boolean stuck = false;
        for (int k = 0; !stuck; k++) {
            List<int[]> may = new ArrayList<>();
            for (int s = 0; s < painted.count(0); s++) {
                for (int p = 1; p <= 3; p++) {
                    if ((painted.may(s) >> p - 1 & 1) != 0) {
                        may.add(new int[] {s, p});
                    }
                }
            }
            stuck = may.isEmpty();
            if (!stuck) {
                int[] one = may.get(drawn(z, k, may.size()));
                painted.paint(one[0], one[1]);
            }
        }
        due("evening(" + z + ", 0) of " + text, asked.evening(z, 0), painted.count(2));
        due("evening(" + z + ", 1) of " + text, asked.evening(z, 1), painted.count(3));
    }

    /** How many of five in a row, with one paint, come to be painted. */
    private static int ofFive(int z) {
        int first = drawn(z, 0, 5);
        boolean middleOfThree = (first == 0 || first == 4) && drawn(z, 1, 3) == 1;
        return first == 1 || first == 3 || middleOfThree ? 2 : 3;
    }

    private static void kept() {
        says("KEPT are STONES with their PAINT,");
        on("r1,9;n3;a8,1;", "paint(3,1) paint(0,2) keep()=1 paint(5,3) rain(2) back()=0 stone(3,0)=1 stone(0,0)=2 stone(5,0)=0 stone(8,0)=1 stone(8,1)=1 count(3)=3");
        says("in which order it came,");
        on("r1,9;n3;a8,1;", "paint(3,1) paint(0,2) paint(5,3) keep()=1 rain(3) paint(5,3) paint(0,2) paint(3,1) back()=0 rain(1) stone(5,0)=0 rain(1) stone(0,0)=0"
            + " stone(3,0)=1 rain(2)=1 rain(1)=NO");
        String down = "paint(8,1) paint(7,1) paint(6,1) paint(5,1) paint(4,1) paint(3,1) paint(2,1) paint(1,1) paint(0,1)=9 ";
        String rained = " rain(3)=3 stone(2,0)=0 stone(3,0)=1 rain(2)=2 stone(4,0)=0 stone(5,0)=1 rain(3)=3 stone(7,0)=0 stone(8,0)=1 rain(3)=1 stone(8,0)=0";
        on("r3,3;n1;m1,1;", down + "keep()=1 rain(3) rain(3) rain(3)=3 back()=0" + rained);
        on("r3,3;n1;m1,1;", down + "rain(3)=3 undo()=7" + rained);
        says("whose turn it is:");
        run("paint(0,1) keep()=1 paint(1,2) count(2)=0 back()=0 count(2)=1");
        run("keep()=1 paint(1,2) count(2)=1 back()=0 count(2)=0");
        on("h0,0;h1,0;", "keep()=1 pass()=1 keep()=2 pass()=0 back()=1 count(2)=1 back()=0 count(2)=0");
        says("2 at most.");
        run("keep()=1 paint(0,1) keep()=2 paint(2,1) keep()=FULL count(6)=2 back()=1 count(3)=1 keep()=2 keep()=FULL back()=1 back()=0 count(3)=0 back()=NO");
    }

    // ---- refusals

    private static void refusals() {
        says("BAD: a number is none that is told (STONES, PAINTS, PAINTERS: such as there are).");
        for (int s : outside(0, 5)) {
            run(RICH + "stone(" + s + ",0)=BAD may(" + s + ")=BAD paint(" + s + ",1)=BAD tell(" + s + ",1)=BAD stone(" + s + ",2)=BAD");
        }
        for (int p : outside(1, 3)) {
            run(RICH + "touch(" + p + ",1)=BAD touch(2," + p + ")=BAD paint(2," + p + ")=BAD tell(2," + p + ")=BAD");
        }
        for (int p : outside(1, 1)) {
            on("n1;", "touch(" + p + ",1)=BAD touch(1," + p + ")=BAD paint(0," + p + ")=BAD tell(0," + p + ")=BAD");
        }
        for (int i : outside(0, 1)) {
            run(RICH + "only(" + i + ")=BAD white(" + i + ",0)=BAD white(" + i + ",1)=BAD");
        }
        run(RICH + "stone(5,0)=9 may(5)=0 tell(5,1)=3 paint(5,1)=NO stone(4,0)=1");
        says("NO: not as things stand. NONE: there is none. FULL.");
        due("BAD", PaintersAtWall.BAD, BAD);
        due("NO", PaintersAtWall.NO, NO);
        due("FULL", PaintersAtWall.FULL, FULL);
        due("NONE", PaintersAtWall.NONE, NONE);
        says("Of several the first in this order, whatever the order at a call;");
        for (int n : outside(1, 8)) {
            run(filled(200) + "write(" + n + ",0)=BAD write(1,0)=FULL write(" + n + ",0)=BAD count(7)=200");
        }
        String fullRow = "tell(0,1) ".repeat(9);
        run(fullRow + "tell(4,1)=BAD tell(-1,1)=BAD tell(0,0)=BAD tell(0,3)=BAD tell(0,1)=FULL count(4)=9");
        run("paint(0,1)=1 paint(0,3)=BAD paint(0,0)=BAD paint(4,1)=BAD paint(0,1)=NO");
        run("rain(0)=BAD rain(4)=BAD rain(-1)=BAD rain(1)=NO");
        on("r1,3;a0,1;a2,2;", "scrape(2)=BAD scrape(-1)=BAD scrape(0)=NONE scrape(1)=NONE");
        on("h0,0;", "beer(2)=BAD beer(-1)=BAD beer(1)=NONE white(0,2)=BAD white(2,1)=BAD white(-1,1)=BAD white(0,1)=NONE white(1,-1)=BAD white(1,1)=NONE");
        says("nothing changes then.");
        String[] refused = {"write(0,7)=BAD", "write(9,7)=BAD", "stone(6,0)=BAD", "stone(0,3)=BAD", "touch(0,1)=BAD", "touch(1,4)=BAD", "may(6)=BAD",
            "paint(6,1)=BAD", "paint(2,0)=BAD", "paint(2,4)=BAD", "paint(0,1)=NO", "paint(1,2)=NO", "paint(5,1)=NO", "paint(2,2)=NO", "rain(0)=BAD", "rain(4)=BAD",
            "pass()=NO", "tell(6,1)=BAD", "tell(2,4)=BAD", "scrape(2)=BAD", "beer(2)=BAD", "white(2,0)=BAD", "white(0,2)=BAD", "only(2)=BAD", "odds(3,0)=BAD",
            "odds(0,2)=BAD", "evening(10000,0)=BAD", "evening(0,2)=BAD", "count(9)=BAD"};
        for (String one : refused) {
            run(RICH + one);
            run(RICH + one + " " + one + " paint(2,1)=5 undo()=4 undo()=3");
        }
        run(RICH + "keep()=2 keep()=FULL paint(2,1)=5 keep()=FULL back()=1 count(3)=4");
        run(RICH + "back()=0 back()=NO undo()=NO rain(3)=2 undo()=0");
        run(RICH + "undo() undo() undo() undo()=0 undo()=NO rain(1)=NO paint(1,2)=2");
        run(RICH + "tell(0,1) tell(0,1) tell(0,1) tell(0,1) tell(0,1) tell(0,1) tell(2,3)=9 tell(4,1)=FULL tell(2,2)=FULL count(4)=9 judge()=1");
        run(RICH + "text(w4;)=29 " + "write(8,0) ".repeat(21) + "count(7)=197 write(4,0)=FULL write(8,0)=FULL count(7)=197 fault()=29 lay()=NO");
        // What asks changes nothing either.
        run(RICH + "fault()=NONE stone(0,0) touch(1,2) may(2) judge() ways() fewest() scrape(0) scrape(1) matters() beer(0) beer(1) white(0,0) white(0,1) white(1,0)"
            + " white(1,1) orders() only(0) only(1) odds(0,0) odds(1,0) odds(2,1) evening(5,0) evening(5,1) count(0)");
        run(RICH + "text(r2,2)=30 fault()=26 may(2)=1 touch(2,3)=0 stone(5,0)=9 count(0)=6");
    }

    // ---- the promises

    private static void promises1to5() {
        says("As told;");
        run("stone(0,0)=0 stone(0,1)=0 stone(3,0)=0 may(0)=3 may(3)=3 touch(1,1)=0 touch(1,2)=1 undo()=NO back()=NO judge()=NONE noRow()=0 rain(1)=NO pass()=NO");
        says("THE TEXT is empty.");
        run("count(7)=0 fault()=NONE wipe()=0 lay()=4");
        says("The lowest n bytes (1 to 8) of v, the highest of these first, come behind THE TEXT:");
        run("write(8," + 0x72322C333B6E333BL + ")=8 fault()=NONE lay()=6 count(1)=3");
        run("write(7," + 0x00_6E333B77303B77L + ")=7 fault()=6 write(2," + 0x333B + ")=9 lay()=4 stone(0,0)=9 stone(3,0)=9 count(1)=3");
        run("write(3," + 0xFFFFFFFFFF77303BL + ")=3 fault()=NONE lay()=4 stone(0,0)=9");
        run("write(1," + 0x1234567890ABCD77L + ")=1 write(2," + 0xFFFFFFFFFFFF313BL + ")=3 lay()=4 stone(1,0)=9");
        run("write(8," + 0x80_77303B77313B77L + ")=8 fault()=0");
        run("write(8," + -1L + ")=8 fault()=0 wipe()=8 write(8," + Long.MIN_VALUE + ")=8 fault()=0");
        String text = "r02,03;n3;a00,1;w5;x2,3;";
        for (int n = 1; n <= 8; n++) {
            StringBuilder told = new StringBuilder();
            for (int at = 0; at < text.length(); at += n) {
                long v = 0x7E7E7E7E7E7E7E7EL;
                int end = Math.min(at + n, text.length());
                for (int i = at; i < end; i++) {
                    v = v << 8 | text.charAt(i);
                }
                told.append("write(").append(end - at).append(',').append(v).append(")=").append(end).append(' ');
            }
            run(told + "fault()=NONE lay()=6 stone(0,0)=1 stone(5,0)=9 touch(2,3)=0");
        }
        says("how long it is. BAD;");
        for (int n : outside(1, 8)) {
            run("write(" + n + ",0)=BAD text(w0;)=3 write(" + n + ",119)=BAD fault()=NONE count(7)=3");
        }
        says("FULL.");
        for (int n = 1; n <= 8; n++) {
            run(filled(201 - n) + "write(" + n + ",0)=FULL count(7)=" + (201 - n) + " wipe()=" + (201 - n) + " write(" + n + ",0)=" + n);
            run(filled(200 - n) + "write(" + n + ",0)=200 write(1,0)=FULL wipe()=200");
        }
        says("THE TEXT is empty: how long it was.");
        run("wipe()=0 text(r2,2;n3;)=8 lay()=4 paint(0,3)=1 tell(1,1) keep() wipe()=8 wipe()=0 fault()=NONE count(1)=3 may(1)=3 stone(0,2)=6 judge()=NONE count(6)=1"
            + " undo()=0 lay()=4 count(1)=2 stone(0,2)=2");
        run(filled(200) + "wipe()=200 count(7)=0 write(1,119)=1 fault()=0");
        says("FAULT.");
        run("text(n3;q)=4 fault()=3 fault()=3 lay()=NO fault()=3 wipe() text(w9;)=3 fault()=0");
        says("NONE.");
        run("fault()=NONE text(n3;)=3 fault()=NONE text(a0,1;a1,1;)=13 fault()=NONE lay()=NO fault()=NONE");
        says("LAID: how many STONES;");
        for (int r = 1; r <= 9; r++) {
            for (int c = 1; r * c <= 9; c++) {
                run("text(r" + r + "," + c + ";w0;)=8 lay()=" + r * c);
            }
        }
        run("lay()=4 text(r1,2;w0;w1;)=11 lay()=2 wipe() text(r1,2;a0,1;a1,2;) lay()=2");
        says("PAINTER 0's turn,");
        run("paint(0,1) count(2)=1 lay()=4 count(2)=0 count(3)=0 stone(0,0)=0 rain(1)=NO");
        run("text(h0,0;) lay() pass()=1 lay()=4 count(2)=0");
        says("no told row,");
        run("tell(0,1) tell(0,1) lay()=4 count(4)=0 judge()=NONE noRow()=0 tell(1,1)=1 judge()=NONE");
        says("nothing UNDONE,");
        run("paint(0,1) paint(1,2) rain(1) lay()=4 count(5)=0 undo()=NO paint(0,1) undo()=0 undo()=NO");
        says("KEPT;");
        run("keep() paint(0,1) keep()=2 lay()=4 count(6)=0 back()=NO keep()=1 keep()=2 keep()=FULL");
        says("THE TEXT stays.");
        run("text(r2,2;n3;)=8 lay()=4 count(7)=8 fault()=NONE lay()=4 wipe()=8");
        says("NO.");
        run(RICH + "text(a0,2;a1,2;)=36 fault()=NONE lay()=NO count(7)=36");
        run(RICH + "text(w6;)=29 fault()=26 lay()=NO count(7)=29");
        // Nothing of the wall laid before is left.
        run(RICH + "wipe() lay()=4 count(1)=2 may(0)=3 may(1)=3 may(2)=3 may(3)=3 touch(1,2)=1 touch(2,3)=BAD stone(4,0)=BAD paint(0,1)=1 may(3)=3 beer(0) ways()=1");
    }

    private static void promises6to12() {
        says("Of a STONE: its PAINT (what = 0; 0 none, 9 it takes none), 1 if it is old (1), which TOUCH it, as bits (2).");
        on("r3,3;n3;a0,3;w4;a8,1;w8;a7,1;a7,2;", "stone(0,0)=3 stone(1,0)=0 stone(4,0)=9 stone(8,0)=9 stone(7,0)=2 stone(0,1)=1 stone(1,1)=0 stone(4,1)=0 stone(8,1)=0"
            + " stone(7,1)=1 stone(0,2)=10 stone(4,2)=170 stone(7,2)=336 stone(8,2)=160 paint(1,1)=3 stone(1,0)=1 stone(1,1)=0 stone(1,2)=21");
        on("r1,1;", "stone(0,0)=0 stone(0,1)=0 stone(0,2)=0");
        says("BAD.");
        for (int s : outside(0, 3)) {
            run("stone(" + s + ",0)=BAD stone(" + s + ",1)=BAD stone(" + s + ",2)=BAD");
        }
        for (int what : outside(0, 2)) {
            run("stone(0," + what + ")=BAD stone(4," + what + ")=BAD");
        }
        says("Whether two PAINTS may TOUCH: 1, 0.");
        on("n3;x1,2;m3,3;", "touch(1,1)=0 touch(1,2)=0 touch(1,3)=1 touch(2,1)=0 touch(2,2)=0 touch(2,3)=1 touch(3,1)=1 touch(3,2)=1 touch(3,3)=1");
        says("BAD.");
        for (int p : outside(1, 2)) {
            run("touch(" + p + ",1)=BAD touch(1," + p + ")=BAD touch(" + p + "," + p + ")=BAD");
        }
        says("The PAINTS (bits) with which he whose turn it is MAY paint a STONE.");
        on("r1,5;n3;h0,3;h1,6;a0,1;w2;x1,3;", "may(0)=0 may(1)=2 may(2)=0 may(3)=3 may(4)=3 paint(4,1)=2 may(0)=0 may(1)=2 may(2)=0 may(3)=2 may(4)=0 count(2)=1");
        says("BAD.");
        for (int s : outside(0, 3)) {
            run("may(" + s + ")=BAD");
        }
        says("A STONE is painted: how many have PAINT.");
        on("r2,2;n3;h0,3;a3,3;w2;", "paint(0,2)=2 stone(0,0)=2 stone(0,1)=0 count(2)=1 count(5)=1 count(8)=1 paint(1,1)=3 stone(1,0)=1 count(2)=0 count(5)=2 count(8)=2");
        says("BAD;");
        for (int n : outside(0, 3)) {
            run("paint(" + n + ",1)=BAD");
        }
        for (int p : outside(1, 2)) {
            run("paint(0," + p + ")=BAD");
        }
        says("NO.");
        on("r2,2;n3;h0,3;a3,3;w2;", "paint(0,3)=NO paint(1,3)=NO paint(2,1)=NO paint(3,1)=NO paint(3,3)=NO paint(0,1)=2 paint(0,2)=NO paint(1,1)=NO");
        says("RAIN: how many STONES it took.");
        run("paint(0,1) rain(3)=1 paint(0,1) paint(1,2) rain(3)=2 paint(0,1) paint(1,2) paint(2,1) rain(3)=3");
        run("paint(0,1) paint(1,2) paint(2,1) paint(3,2) rain(1)=1 undo() rain(2)=2 undo() rain(3)=3 rain(3)=1");
        says("BAD;");
        for (int n : outside(1, 3)) {
            run("paint(0,1) paint(1,2) rain(" + n + ")=BAD");
            run("rain(" + n + ")=BAD");
        }
        says("NO: it would take none.");
        run("rain(1)=NO rain(2)=NO rain(3)=NO paint(0,1) rain(1)=1 rain(1)=NO count(5)=2");
        on("a0,1;", "rain(1)=NO rain(3)=NO");
        says("PASS: whose turn it is.");
        on("r1,2;n1;", "paint(0,1) pass()=0 count(2)=0 pass()=1 count(2)=1 count(5)=3");
        says("NO: he is not STUCK.");
        run("pass()=NO paint(0,1) pass()=NO paint(1,2) paint(2,1) pass()=NO paint(3,2) pass()=1");
        says("UNDONE: how many more can be.");
        run("paint(0,1) paint(1,2) rain(2) undo()=2 undo()=1 undo()=0 count(3)=0");
        says("NO.");
        run("undo()=NO paint(0,1) undo()=0 undo()=NO keep()=1 tell(0,1)=1 undo()=NO back()=0 undo()=NO");
    }

    private static void promises13to21() {
        says("A painting more in the told row: how many.");
        run("tell(0,1)=1 judge()=NONE tell(1,2)=2 judge()=NONE tell(1,1)=3 judge()=2 count(4)=3 count(3)=0");
        says("BAD;");
        for (int s : outside(0, 3)) {
            run("tell(" + s + ",1)=BAD");
        }
        for (int p : outside(1, 2)) {
            run("tell(0," + p + ")=BAD");
        }
        says("FULL.");
        run("tell(0,1) ".repeat(8) + "tell(1,2)=9 tell(3,2)=FULL tell(0,1)=FULL noRow()=9 tell(3,2)=1");
        says("No told row: how many it had.");
        run("noRow()=0 tell(0,1) tell(0,1) judge()=1 noRow()=2 judge()=NONE noRow()=0 tell(1,1)=1");
        // It goes by noRow() and lay() alone.
        run("tell(0,1) tell(0,1) paint(0,1) undo() keep() back() wipe() rain(1)=NO count(4)=2 lay() count(4)=0");
        says("JUDGED.");
        run("tell(0,1) tell(1,2) tell(2,2) tell(3,1) judge()=2 paint(3,2) judge()=2 rain(1) judge()=2");
        says("NONE.");
        run("judge()=NONE tell(3,2) judge()=NONE");
        says("WAYS.");
        run("ways()=2 paint(0,1) ways()=1 paint(2,2) ways()=0 rain(1) ways()=1 undo() ways()=0");
        says("FEWEST.");
        on("n3;", "fewest()=2 paint(0,1) paint(2,2) fewest()=3 rain(1) paint(2,1) fewest()=2");
        says("NONE.");
        run("paint(0,1) paint(3,1) fewest()=NONE");
        says("SCRAPE: how many (what = 0), the set (1).");
        on("r1,9;", "paint(0,1) paint(8,2) scrape(0)=1 scrape(1)=1 paint(4,2) scrape(0)=1 scrape(1)=1 paint(6,1) scrape(0)=2 scrape(1)=65");
        says("NONE;");
        on("r1,2;x1,2;", "scrape(0)=NONE scrape(1)=NONE");
        says("BAD.");
        for (int what : outside(0, 1)) {
            run("scrape(" + what + ")=BAD paint(0,1) paint(3,1) scrape(" + what + ")=BAD");
        }
        says("MATTERS, as bits.");
        run("paint(0,1) paint(3,1) matters()=9 rain(1) matters()=0 paint(2,2) matters()=5");
        says("BEER: 1, 0 (what = 0), what to paint (1; NONE).");
        on("r1,3;n1;", "beer(0)=1 beer(1)=11 paint(1,1) beer(0)=0 beer(1)=NONE");
        says("BAD.");
        for (int what : outside(0, 1)) {
            run("beer(" + what + ")=BAD");
        }
        says("WHITE: 1, 0 (what = 0), what to paint (1; NONE).");
        on("r1,3;", "white(0,0)=1 white(0,1)=11 white(1,0)=1 white(1,1)=NONE");
        says("BAD.");
        for (int one : outside(0, 1)) {
            run("white(" + one + ",0)=BAD white(" + one + ",1)=BAD white(0," + one + ")=BAD white(1," + one + ")=BAD white(" + one + "," + one + ")=BAD");
        }
        // What was found of the wall laid before tells nothing of this one.
        run("text(r1,4;n1;)=8 lay()" + beer(0, "NONE") + white(0, 0, "NONE") + "text(m1,1;w0;)=16 lay()" + beer(1, "11") + white(0, 1, "11") + "wipe() lay()"
            + beer(0, "NONE") + white(1, 1, "NONE"));
    }

    private static void promises22to28() {
        says("ORDERS.");
        run("orders()=1 paint(0,1) orders()=1 paint(1,2) orders()=2 paint(2,1) orders()=6 paint(3,2) orders()=24 rain(3) orders()=1");
        says("ONLY, as bits.");
        on("r1,4;h0,1;h1,2;", "paint(3,1) paint(2,2) only(0)=8 only(1)=4");
        says("BAD.");
        for (int painter : outside(0, 1)) {
            run("paint(0,1) only(" + painter + ")=BAD");
        }
        says("ODDS: above (part = 0), below (1).");
        on("r1,5;n1;", odds(0, 1, 0, 1, 8, 15));
        says("BAD.");
        for (int n : outside(0, 2)) {
            run("odds(" + n + ",0)=BAD odds(" + n + ",1)=BAD");
        }
        for (int part : outside(0, 1)) {
            run("odds(0," + part + ")=BAD odds(2," + part + ")=BAD");
        }
        says("An EVENING: who (what = 0), how many STONES (1).");
        on("r1,3;n1;", "evening(0,0)=1 evening(0,1)=1 evening(1,0)=0 evening(1,1)=2 count(3)=0");
        says("BAD.");
        for (int z : outside(0, 9999)) {
            run("evening(" + z + ",0)=BAD evening(" + z + ",1)=BAD");
        }
        for (int what : outside(0, 1)) {
            run("evening(0," + what + ")=BAD evening(9999," + what + ")=BAD");
        }
        says("KEPT: how many.");
        run("keep()=1 keep()=2 back()=1 keep()=2 count(6)=2");
        says("FULL.");
        run("keep() paint(0,1) keep() paint(1,2) keep()=FULL back()=1 count(3)=1 back()=0 count(3)=0");
        says("As KEPT last (it is KEPT no more then):");
        run("paint(0,1) keep()=1 paint(1,2) keep()=2 rain(2) back()=1 stone(1,0)=2 count(2)=0 back()=0 stone(1,0)=0 stone(0,0)=1 count(2)=1 back()=NO");
        run("paint(0,1) tell(0,1) tell(3,1) keep() rain(1) judge()=NONE back()=0 count(4)=2 judge()=0");
        says("how many are left;");
        run("keep() keep() back()=1 count(6)=1 back()=0 count(6)=0");
        says("nothing is UNDONE then.");
        run("paint(0,1) keep() paint(1,2) rain(1) count(5)=3 back()=0 count(5)=0 undo()=NO paint(1,2) undo()=0 count(3)=1 undo()=NO");
        says("NO.");
        run("back()=NO keep() back()=0 back()=NO paint(0,1) back()=NO count(5)=1");
        says("How many: 0 STONES, 1 PAINTS, 2 whose turn it is, 3 STONES with PAINT, 4 of the told row, 5 that can be UNDONE, 6 KEPT, 7 bytes of THE TEXT,"
            + " 8 STONES that RAIN could take.");
        run("count(0)=4 count(1)=2 count(2)=0 count(3)=0 count(4)=0 count(5)=0 count(6)=0 count(7)=0 count(8)=0");
        run(RICH + "count(0)=6 count(1)=3 count(2)=0 count(3)=4 count(4)=2 count(5)=4 count(6)=1 count(7)=26 count(8)=3 paint(2,1)=5 count(2)=1 count(3)=5 count(5)=5"
            + " count(8)=4 rain(3)=3 count(2)=1 count(3)=2 count(5)=6 count(8)=1 text(q)=27 count(7)=27");
        on("r3,3;n1;m1,1;a0,1;w8;", "paint(1,1) paint(2,1) paint(3,1) paint(4,1) paint(5,1) paint(6,1) paint(7,1)=8 count(3)=8 count(8)=7 count(0)=9");
        says("BAD.");
        for (int what : outside(0, 8)) {
            run("count(" + what + ")=BAD");
        }
    }
}
