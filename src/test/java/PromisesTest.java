/** Each promise by itself: ordinary inputs, the edges that the document names, wrong inputs. */
public final class PromisesTest {
    private static final int BAD = -1, NO = -2, FULL = -3, NONE = -4;
    private static final int LEAST = Integer.MIN_VALUE, MOST = Integer.MAX_VALUE;
    private static int wrong = 0;
    private static int asked = 0;
    private static int promise = 0;

    public static void main(String[] args) {
        aNewObject();
        write();
        wipe();
        fault();
        lay();
        stone();
        touch();
        may();
        paint();
        rain();
        pass();
        undo();
        tell();
        noRow();
        judge();
        ways();
        fewest();
        scrape();
        matters();
        beer();
        white();
        orders();
        only();
        odds();
        evening();
        keep();
        back();
        count();
        nothingChanges();
        System.out.println(asked + " answers asked for, " + wrong + " wrong");
        if (wrong != 0 || promise != 28) {
            System.exit(1);
        }
    }

    private static void due(String what, long got, long want) {
        asked++;
        if (got != want) {
            wrong++;
            System.out.println("promise " + promise + ": " + what + " answered " + got + ", due is " + want);
        }
    }

    private static void write(PaintersAtWall x, String text) {
        for (int i = 0; i < text.length(); i++) {
            x.write(1, text.charAt(i));
        }
    }

    /** A new object with this wall laid. */
    private static PaintersAtWall laid(String text) {
        PaintersAtWall x = new PaintersAtWall();
        write(x, text);
        if (x.lay() < 1) {
            wrong++;
            System.out.println("promise " + promise + ": could not be laid: " + text);
        }
        return x;
    }

    private static PaintersAtWall painted(String text, int... paintings) {
        PaintersAtWall x = laid(text);
        for (int p : paintings) {
            if (x.paint(p / 10, p % 10) < 1) {
                wrong++;
                System.out.println("promise " + promise + ": could not be painted: " + p + " on " + text);
            }
        }
        return x;
    }

    private static void dueCounts(String what, PaintersAtWall x, int... want) {
        for (int i = 0; i < want.length; i++) {
            due(what + ": count(" + i + ")", x.count(i), want[i]);
        }
    }

    private static void aNewObject() {
        promise = 1;
        due("BAD", PaintersAtWall.BAD, BAD);
        due("NO", PaintersAtWall.NO, NO);
        due("FULL", PaintersAtWall.FULL, FULL);
        due("NONE", PaintersAtWall.NONE, NONE);
        PaintersAtWall x = new PaintersAtWall();
        dueCounts("new", x, 4, 2, 0, 0, 0, 0, 0, 0, 0);
        due("fault", x.fault(), NONE);
        due("stone(0, 2)", x.stone(0, 2), 2);
        due("stone(3, 2)", x.stone(3, 2), 4);
        due("may(3)", x.may(3), 3);
        due("touch(1, 2)", x.touch(1, 2), 1);
        due("touch(2, 2)", x.touch(2, 2), 0);
        due("lay", x.lay(), 4);
    }

    private static void write() {
        promise = 2;
        PaintersAtWall x = new PaintersAtWall();
        for (int n : new int[] {0, 9, -1, LEAST, MOST}) {
            due("write(" + n + ")", x.write(n, 'w'), BAD);
        }
        due("8 bytes", x.write(8, 0x72322C333B6E333BL), 8);
        due("laid by r2,3;n3;", x.lay(), 6);
        due("1 byte of more", x.write(1, 0x7777777777777777L), 9);
        due("2 bytes of more", x.write(2, -1L << 16 | '5' << 8 | ';'), 11);
        due("laid by w5; too", x.lay(), 6);
        due("stone(5, 0)", x.stone(5, 0), 9);
        for (int i = 0; i < 23; i++) {
            x.write(8, 0);
        }
        due("195", x.count(7), 195);
        due("8 more", x.write(8, 0), FULL);
        due("6 more", x.write(6, 0), FULL);
        due("195 still", x.count(7), 195);
        due("4 more", x.write(4, 0), 199);
        due("2 more", x.write(2, 0), FULL);
        due("the last", x.write(1, 0), 200);
        due("one more", x.write(1, 0), FULL);
        due("BAD ahead of FULL", x.write(9, 0), BAD);
        due("0 ahead of FULL", x.write(0, 0), BAD);
    }

    private static void wipe() {
        promise = 3;
        PaintersAtWall x = laid("r2,2;n3;");
        x.paint(0, 3);
        due("wipe", x.wipe(), 8);
        due("again", x.wipe(), 0);
        due("no fault now", x.fault(), NONE);
        dueCounts("the wall stays", x, 4, 3, 1, 1, 0, 1, 0, 0, 1);
        due("stone(0, 2)", x.stone(0, 2), 6);
        due("lay", x.lay(), 4);
        dueCounts("as at first", x, 4, 2, 0, 0, 0, 0, 0, 0, 0);
    }

    private static void dueFault(String text, int want) {
        PaintersAtWall x = new PaintersAtWall();
        write(x, text);
        due("fault of " + text, x.fault(), want);
        due("and again", x.fault(), want);
        due("lay of " + text, x.lay() == NO ? 1 : 0, want == NONE ? 0 : 1);
    }

    private static void fault() {
        promise = 4;
        for (String good : new String[] {"", "r1,1;", "r9,1;", "r1,9;", "r3,3;", "r2,4;", "r4,2;", "r01,09;", "n1;", "n03;",
            "r2,2;r3,3;", "n3;n1;", "w0;n3;", "x1,2;r3,3;", "m1,1;h0,0;h1,3;r2,2;", "h0,03;a3,2;w3;a3,1;", "n3;x3,3;m1,3;h1,7;",
            "w3;w3;", "n1;h0,1;h1,0;", "x1,1;x1,1;m1,1;", "r1,9;a8,1;w8;"}) {
            dueFault(good, NONE);
        }
        for (String bad : new String[] {"r0,1;", "r1,0;", "r10,1;", "r1,10;", "r2,5;", "r5,2;", "r3,4;", "r4,3;", "r1;", "r1,2,3;",
            "r1,2", "r1,", "r1", "r", "r,2;", "r1,;", "r1 ,2;", "r 1,2;", "R1,2;", "r001,2;", "r1,002;", "r-1,2;", "r1;2;", "r1,2,",
            "n0;", "n4;", "n;", "n1,2;", "n10;", "n001;", "n1", "x0,1;", "x1,0;", "x1,3;", "x3,1;", "x1;", "x1,2,3;", "m0,1;",
            "m1,3;", "m3,1;", "m2;", "h2,1;", "h0,4;", "h0,8;", "h1,99;", "h0;", "h0,1,1;", "a4,1;", "a0,0;", "a0,3;", "a0;",
            "a0,1,1;", "a99,1;", "w4;", "w99;", "w;", "w0,1;", ";", ",", "q1;", "1;", " ", "\u0000", "\u00ff", "n\u00b2;", "n/;",
            "n:;", "\u0172;"}) {
            dueFault(bad, 0);
            dueFault("n2;" + bad, 3);
            dueFault("r1,4;n2;" + bad + "n1;", 8);
        }
        dueFault("w0;r1,1;", 3);
        dueFault("a0,1;r1,1;", 5);
        dueFault("w0;a0,1;r2,2;", 8);
        dueFault("x1,2;n2;", 5);
        dueFault("m1,2;n2;", 5);
        dueFault("h0,1;n2;", 5);
        dueFault("a0,1;n2;", 5);
        dueFault("n1;x1,2;", 3);
        dueFault("n1;h0,2;", 3);
        dueFault("n1;a0,2;", 3);
        dueFault("n3;n2;a0,3;", 6);
        dueFault("r3,3;r1,1;a1,1;", 10);
        dueFault("r1,1;w1;", 5);
        dueFault("r3,3;w9;", 5);
        dueFault("n2;;", 3);
        dueFault("n2; n2;", 3);
        dueFault("n2;r1,4;q;r0,0;", 8);
        dueFault("w0;".repeat(66) + "w0", 198);
        dueFault("w0;".repeat(66) + "w;", 198);
        dueFault("w0;".repeat(66), NONE);
    }

    private static void lay() {
        promise = 5;
        due("empty", new PaintersAtWall().lay(), 4);
        due("r3,2;", laid("r3,2;").lay(), 6);
        due("with such as take none", laid("r1,2;w0;w1;").lay(), 2);
        PaintersAtWall x = laid("r1,3;n2;a0,1;");
        x.paint(1, 2);
        x.keep();
        x.tell(2, 1);
        dueCounts("ahead", x, 3, 2, 1, 2, 1, 1, 1, 13, 1);
        due("lay", x.lay(), 3);
        dueCounts("behind", x, 3, 2, 0, 1, 0, 0, 0, 13, 0);
        due("nothing UNDONE", x.undo(), NO);
        due("nothing KEPT", x.back(), NO);
        dueOldOnes("r1,2;a0,1;a1,1;", false);
        dueOldOnes("r1,2;a0,1;a1,2;", true);
        dueOldOnes("r1,2;a0,1;a1,2;x2,1;", false);
        dueOldOnes("r1,2;a0,1;a1,1;m1,1;", true);
        dueOldOnes("r1,2;m1,1;a0,1;a1,1;x1,1;", false);
        dueOldOnes("r1,2;a0,1;a1,1;a1,2;", true);
        dueOldOnes("r1,2;a0,1;a1,1;w1;", true);
        dueOldOnes("r1,3;a0,1;a2,1;", true);
        dueOldOnes("r2,2;a0,1;a2,1;", false);
        dueOldOnes("r2,2;a0,1;a3,1;", true);
        dueOldOnes("r2,2;a1,1;a2,1;", true);
        dueOldOnes("r3,3;n3;a4,3;a7,3;", false);
        dueOldOnes("r3,3;n3;a2,3;a3,3;", true);
        dueOldOnes("h0,1;h1,1;a0,2;", true);
        PaintersAtWall y = laid("r1,2;n3;h0,4;");
        y.paint(1, 3);
        y.tell(0, 1);
        y.keep();
        write(y, "q");
        due("lay with a fault", y.lay(), NO);
        dueCounts("nothing changes", y, 2, 3, 1, 1, 1, 1, 1, 14, 1);
        due("may(0)", y.may(0), 3);
        y.wipe();
        write(y, "r1,9;a0,1;a1,1;");
        due("lay with a clash", y.lay(), NO);
        due("fault of it", y.fault(), NONE);
        dueCounts("nothing changes", y, 2, 3, 1, 1, 1, 1, 1, 15, 1);
        due("undo", y.undo(), 0);
        due("may(0) of 0", y.may(0), 4);
        PaintersAtWall z = laid("r2,2;n3;m1,1;x1,2;h0,1;h1,2;a0,1;w1;");
        z.wipe();
        due("nothing of the TEXT before is left", z.lay(), 4);
        for (int s = 0; s < 4; s++) {
            due("stone(" + s + ", 0)", z.stone(s, 0), 0);
            due("stone(" + s + ", 1)", z.stone(s, 1), 0);
            due("may(" + s + ")", z.may(s), 3);
        }
        due("touch(1, 1)", z.touch(1, 1), 0);
        due("touch(1, 2)", z.touch(1, 2), 1);
        due("touch(1, 3)", z.touch(1, 3), BAD);
        z.paint(0, 2);
        due("may(2) of 1", z.may(2), 3);
        due("last of a and w", laid("r1,2;w0;a0,2;").stone(0, 0), 2);
        due("last of a and w", laid("r1,2;w0;a0,2;").ways(), 1);
    }

    private static void dueOldOnes(String text, boolean fine) {
        PaintersAtWall x = new PaintersAtWall();
        write(x, text);
        due("fault of " + text, x.fault(), NONE);
        due("lay of " + text, x.lay() == NO ? 0 : 1, fine ? 1 : 0);
    }

    private static void stone() {
        promise = 6;
        PaintersAtWall x = laid("r3,3;n3;a0,3;w4;a8,1;w8;a7,1;a7,2;");
        int[] paints = {3, 0, 0, 0, 9, 0, 0, 2, 9};
        int[] old = {1, 0, 0, 0, 0, 0, 0, 1, 0};
        int[] near = {10, 21, 34, 81, 170, 276, 136, 336, 160};
        for (int s = 0; s < 9; s++) {
            due("stone(" + s + ", 0)", x.stone(s, 0), paints[s]);
            due("stone(" + s + ", 1)", x.stone(s, 1), old[s]);
            due("stone(" + s + ", 2)", x.stone(s, 2), near[s]);
        }
        x.paint(5, 1);
        due("painted", x.stone(5, 0), 1);
        due("not old", x.stone(5, 1), 0);
        for (int s : new int[] {-1, 9, LEAST, MOST}) {
            for (int what = 0; what < 3; what++) {
                due("stone(" + s + ", " + what + ")", x.stone(s, what), BAD);
            }
        }
        for (int what : new int[] {-1, 3, LEAST, MOST}) {
            due("what " + what, x.stone(0, what), BAD);
        }
        PaintersAtWall y = laid("r2,3;");
        int[] six = {10, 21, 34, 17, 42, 20};
        for (int s = 0; s < 6; s++) {
            due("2 rows of 3, stone(" + s + ", 2)", y.stone(s, 2), six[s]);
        }
        due("stone(6, 0)", y.stone(6, 0), BAD);
        PaintersAtWall z = laid("r9,1;");
        due("9 rows, first", z.stone(0, 2), 2);
        due("9 rows, middle", z.stone(4, 2), 40);
        due("9 rows, last", z.stone(8, 2), 128);
        due("1 alone", laid("r1,1;").stone(0, 2), 0);
        due("row of 9, last", laid("r1,9;").stone(8, 2), 128);
    }

    private static void touch() {
        promise = 7;
        PaintersAtWall x = laid("n3;x1,2;m2,2;x3,3;m3,1;x2,3;m3,2;m1,1;x1,1;");
        int[][] want = {{0, 0, 1}, {0, 1, 1}, {1, 1, 0}};
        for (int a = 1; a <= 3; a++) {
            for (int b = 1; b <= 3; b++) {
                due("touch(" + a + ", " + b + ")", x.touch(a, b), want[a - 1][b - 1]);
            }
        }
        for (int p : new int[] {0, 4, -1, LEAST, MOST}) {
            due("touch(" + p + ", 1)", x.touch(p, 1), BAD);
            due("touch(1, " + p + ")", x.touch(1, p), BAD);
        }
        PaintersAtWall y = laid("n1;");
        due("touch(1, 1)", y.touch(1, 1), 0);
        due("touch(1, 2)", y.touch(1, 2), BAD);
        due("touch(2, 1)", y.touch(2, 1), BAD);
    }

    private static void may() {
        promise = 8;
        PaintersAtWall x = laid("r1,5;n3;h0,3;h1,6;a0,1;w2;x1,3;");
        int[] first = {0, 2, 0, 3, 3};
        int[] second = {0, 2, 0, 2, 0};
        for (int s = 0; s < 5; s++) {
            due("may(" + s + ") of 0", x.may(s), first[s]);
        }
        x.paint(4, 1);
        for (int s = 0; s < 5; s++) {
            due("may(" + s + ") of 1", x.may(s), second[s]);
        }
        for (int s : new int[] {-1, 5, 9, LEAST, MOST}) {
            due("may(" + s + ")", x.may(s), BAD);
        }
        due("a painter without paints", laid("h0,0;").may(0), 0);
        due("the last h counts", laid("h0,0;h0,2;").may(0), 2);
        due("all paints without h", laid("n3;").may(0), 7);
    }

    private static void paint() {
        promise = 9;
        PaintersAtWall x = laid("r2,2;n3;h0,3;a3,3;w2;");
        due("old ones count", x.paint(0, 2), 2);
        due("turn", x.count(2), 1);
        due("it has some", x.paint(0, 1), NO);
        due("it takes none", x.paint(2, 1), NO);
        due("it is old", x.paint(3, 1), NO);
        due("alike", x.paint(1, 2), NO);
        due("alike with an old one", x.paint(1, 3), NO);
        for (int s : new int[] {-1, 4, LEAST, MOST}) {
            due("stone " + s, x.paint(s, 1), BAD);
        }
        for (int p : new int[] {-1, 0, 4, LEAST, MOST}) {
            due("paint " + p, x.paint(1, p), BAD);
            due("BAD ahead of NO", x.paint(2, p), BAD);
        }
        due("nothing changed", x.count(5), 1);
        due("paint(1, 1)", x.paint(1, 1), 3);
        due("has it", x.stone(1, 0), 1);
        PaintersAtWall y = laid("r1,3;n3;h0,3;");
        due("he has it not", y.paint(0, 3), NO);
        due("he has it", y.paint(0, 1), 1);
        due("the other one has it", y.paint(1, 3), 2);
        due("3 paints at most", laid("n2;").paint(0, 3), BAD);
    }

    private static void rain() {
        promise = 10;
        PaintersAtWall x = laid("r3,3;n3;a8,1;");
        due("nothing to take", x.rain(1), NO);
        int[] row = {3, 0, 5, 1, 6};
        int[] paints = {1, 2, 2, 3, 2};
        for (int i = 0; i < 5; i++) {
            due("paint", x.paint(row[i], paints[i]), i + 2);
        }
        for (int n : new int[] {0, 4, -1, LEAST, MOST}) {
            due("rain(" + n + ")", x.rain(n), BAD);
        }
        due("turn", x.count(2), 1);
        due("rain(2)", x.rain(2), 2);
        due("turn stays", x.count(2), 1);
        due("the last", x.stone(6, 0), 0);
        due("the last but one", x.stone(1, 0), 0);
        due("stays", x.stone(5, 0), 2);
        due("paint(6, 3)", x.paint(6, 3), 5);
        due("rain(1)", x.rain(1), 1);
        due("the last again", x.stone(6, 0), 0);
        due("rain(3)", x.rain(3), 3);
        due("old stays", x.stone(8, 0), 1);
        due("rain(3) of none", x.rain(3), NO);
        due("BAD ahead of NO", x.rain(0), BAD);
        PaintersAtWall y = painted("r1,3;", 1, 12);
        due("fewer", y.rain(3), 2);
        due("none left", y.count(3), 0);
        due("all can be painted again", y.paint(1, 1), 1);
    }

    private static void pass() {
        promise = 11;
        PaintersAtWall x = laid("r1,2;n1;");
        due("not stuck", x.pass(), NO);
        x.paint(0, 1);
        due("stuck", x.pass(), 0);
        due("stuck too", x.pass(), 1);
        due("can be undone", x.count(5), 3);
        PaintersAtWall y = laid("h0,0;h1,1;");
        due("without paints", y.pass(), 1);
        due("the other one is not", y.pass(), NO);
        due("nothing changed", y.count(2), 1);
        due("all w", laid("r1,1;w0;").pass(), 1);
        due("DONE", painted("r1,1;", 2).pass(), 0);
    }

    private static void undo() {
        promise = 12;
        PaintersAtWall x = laid("r1,9;n3;m1,1;m2,2;m3,3;");
        due("nothing", x.undo(), NO);
        for (int s = 0; s < 9; s++) {
            x.paint(s, s % 3 + 1);
        }
        due("8 at most", x.count(5), 8);
        due("undo", x.undo(), 7);
        due("stone(8, 0)", x.stone(8, 0), 0);
        due("turn", x.count(2), 0);
        due("paint", x.paint(8, 1), 9);
        due("pass", x.pass(), 0);
        due("rain", x.rain(3), 3);
        due("8 at most", x.count(5), 8);
        due("the rain", x.undo(), 7);
        due("back again", x.count(3), 9);
        due("order too", x.rain(1), 1);
        due("the last one", x.stone(8, 0), 0);
        due("undo the rain", x.undo(), 7);
        due("undo the pass", x.undo(), 6);
        due("turn", x.count(2), 1);
        due("undo the paint", x.undo(), 5);
        due("as it was", x.count(3), 8);
        for (int left = 4; left >= 0; left--) {
            due("undo", x.undo(), left);
        }
        due("no more", x.undo(), NO);
        due("three stay", x.count(3), 3);
        due("turn", x.count(2), 1);
        PaintersAtWall y = painted("r1,3;", 1);
        y.tell(0, 1);
        y.keep();
        y.rain(2);
        due("undo", y.undo(), 1);
        due("the told row stays", y.count(4), 1);
        due("KEPT stay", y.count(6), 1);
        due("what was NO can not be undone", y.paint(0, 1), NO);
        due("undo", y.undo(), 0);
    }

    private static void tell() {
        promise = 13;
        PaintersAtWall x = laid("r1,3;w2;a0,1;");
        for (int i = 1; i <= 9; i++) {
            due("tell", x.tell(i % 3, i % 2 + 1), i);
        }
        due("one more", x.tell(0, 1), FULL);
        for (int s : new int[] {-1, 3, LEAST, MOST}) {
            due("stone " + s, x.tell(s, 1), BAD);
        }
        for (int p : new int[] {-1, 0, 3, LEAST, MOST}) {
            due("paint " + p, x.tell(0, p), BAD);
        }
        due("9 still", x.count(4), 9);
        due("wall as it was", x.count(3), 1);
    }

    private static void noRow() {
        promise = 14;
        PaintersAtWall x = new PaintersAtWall();
        due("none", x.noRow(), 0);
        x.tell(0, 1);
        x.tell(1, 2);
        due("two", x.noRow(), 2);
        due("none", x.noRow(), 0);
        due("count", x.count(4), 0);
        due("anew", x.tell(2, 1), 1);
    }

    private static int judged(PaintersAtWall x, int... paintings) {
        x.noRow();
        for (int p : paintings) {
            x.tell(p / 10, p % 10);
        }
        return x.judge();
    }

    private static void judge() {
        promise = 15;
        PaintersAtWall x = laid("r1,4;n3;h0,3;h1,6;w3;");
        due("no row", x.judge(), NONE);
        due("all may be", judged(x, 1, 12, 21), NONE);
        due("first", judged(x, 3), 0);
        due("second has it not", judged(x, 1, 11), 1);
        due("third takes none", judged(x, 1, 12, 31), 2);
        due("alike", judged(x, 1, 13, 22, 32), 3);
        due("alike ones", judged(x, 2, 12), 1);
        due("the same stone", judged(x, 2, 3), 1);
        due("wall as it was", x.count(3), 0);
        due("nothing to undo", x.count(5), 0);
        x.paint(0, 2);
        due("from now on", judged(x, 13, 21), NONE);
        due("by turns from now", judged(x, 11), 0);
        due("beside what is there", judged(x, 12), 0);
        due("row stays", x.count(4), 1);
    }

    private static void ways() {
        promise = 16;
        due("row of 4", new PaintersAtWall().ways(), 2);
        due("4 in square, 3 paints", laid("r2,2;n3;").ways(), 18);
        due("all may touch", laid("r3,3;n3;m1,1;m2,2;m3,3;").ways(), 19683);
        due("none may touch", laid("r1,2;x1,2;").ways(), 0);
        due("old and shut", laid("r1,4;a0,1;w2;").ways(), 2);
        due("whoever has them", laid("r1,2;h0,0;h1,1;").ways(), 2);
        due("all shut", laid("r1,1;w0;").ways(), 1);
        due("DONE", painted("r1,2;", 1, 12).ways(), 1);
        due("one left", painted("r1,3;n3;", 1, 23).ways(), 1);
        due("two alike", painted("r1,3;n3;", 1, 21).ways(), 2);
        due("none left", painted("r1,3;", 1, 22).ways(), 0);
    }

    private static void fewest() {
        promise = 17;
        due("two", new PaintersAtWall().fewest(), 2);
        due("three on the wall", painted("r1,5;n3;", 1, 22, 43).fewest(), 3);
        due("two with an old one", laid("r1,3;n3;a1,3;").fewest(), 2);
        due("one", laid("r3,3;m2,2;").fewest(), 1);
        due("one is old, so two", laid("r1,2;m2,2;a0,1;").fewest(), 2);
        due("none on a shut wall", laid("r1,2;w0;w1;").fewest(), 0);
        due("no ways", painted("r1,3;", 1, 22).fewest(), NONE);
        due("DONE", painted("r1,3;n3;", 1, 12, 23).fewest(), 3);
        due("paints that nobody has", laid("r1,2;n3;m3,3;h0,1;h1,1;").fewest(), 1);
        due("three are due", laid("r1,3;n3;x1,2;x1,3;x2,3;").fewest(), NONE);
    }

    private static void scrape() {
        promise = 18;
        PaintersAtWall x = painted("r1,3;", 1, 22);
        due("how many", x.scrape(0), 1);
        due("the lowest", x.scrape(1), 1);
        due("there are ways", new PaintersAtWall().scrape(0), 0);
        due("there are ways", new PaintersAtWall().scrape(1), 0);
        PaintersAtWall y = laid("r1,3;a0,1;a2,2;");
        due("old ones stay", y.scrape(0), NONE);
        due("old ones stay", y.scrape(1), NONE);
        PaintersAtWall one = painted("r1,3;a0,1;", 22);
        due("only the new one", one.scrape(0), 1);
        due("only the new one", one.scrape(1), 4);
        PaintersAtWall z = painted("r1,7;", 1, 22, 41, 62);
        due("two of four", z.scrape(0), 2);
        due("the lowest of two", z.scrape(1), 17);
        for (int what : new int[] {-1, 2, LEAST, MOST}) {
            due("scrape(" + what + ")", x.scrape(what), BAD);
            due("BAD ahead of NONE", y.scrape(what), BAD);
        }
        due("wall as it was", x.count(3), 2);
    }

    private static void matters() {
        promise = 19;
        due("there are ways", painted("r1,3;", 1).matters(), 0);
        due("both", painted("r1,3;", 1, 22).matters(), 5);
        due("not the old one", painted("r1,3;a0,1;", 22).matters(), 4);
        due("no one alone", painted("r1,7;", 1, 22, 41, 62).matters(), 0);
        due("the middle one of three", painted("r1,5;", 1, 22, 41).matters(), 4);
        due("old ones alone", laid("r1,3;a0,1;a2,2;").matters(), 0);
        due("DONE", painted("r1,1;", 1).matters(), 0);
    }

    private static void dueBeer(PaintersAtWall x, int value, int painting) {
        due("beer(0)", x.beer(0), value);
        due("beer(1)", x.beer(1), painting);
    }

    private static void beer() {
        promise = 20;
        dueBeer(laid("r1,1;n1;"), 1, 1);
        dueBeer(laid("r1,2;n1;"), 1, 1);
        dueBeer(laid("r1,2;n1;m1,1;"), 0, NONE);
        dueBeer(laid("r1,3;n1;"), 1, 11);
        dueBeer(laid("r1,3;n1;a0,1;"), 1, 21);
        dueBeer(laid("r1,1;w0;"), 0, NONE);
        dueBeer(painted("r1,1;", 1), 0, NONE);
        dueBeer(laid("r1,2;h1,0;"), 1, 1);
        dueBeer(laid("r1,2;h0,0;"), 0, NONE);
        dueBeer(laid("r1,1;n3;h0,4;"), 1, 3);
        dueBeer(painted("r1,2;n1;m1,1;", 1), 1, 11);
        PaintersAtWall x = new PaintersAtWall();
        for (int what : new int[] {-1, 2, LEAST, MOST}) {
            due("beer(" + what + ")", x.beer(what), BAD);
        }
        // The same stones under other rules: nothing that was found on the wall laid before may be left.
        PaintersAtWall y = laid("r1,4;n1;");
        dueBeer(y, 0, NONE);
        write(y, "m1,1;w0;");
        due("lay", y.lay(), 4);
        dueBeer(y, 1, 11);
    }

    private static void dueWhite(PaintersAtWall x, int d, int value, int painting) {
        due("white(" + d + ", 0)", x.white(d, 0), value);
        due("white(" + d + ", 1)", x.white(d, 1), painting);
    }

    private static void white() {
        promise = 21;
        dueWhite(laid("r1,1;n1;"), 0, 1, 1);
        dueWhite(laid("r1,1;n1;"), 1, 1, NONE);
        dueWhite(laid("r1,2;n1;"), 0, 0, NONE);
        dueWhite(laid("r1,2;n1;"), 1, 0, 1);
        dueWhite(laid("r1,3;"), 0, 1, 11);
        dueWhite(laid("r1,3;"), 1, 1, NONE);
        dueWhite(laid("r1,1;w0;"), 0, 1, NONE);
        dueWhite(laid("r1,1;h0,0;"), 0, 0, NONE);
        dueWhite(laid("r1,1;h0,0;"), 1, 0, NONE);
        dueWhite(painted("r1,1;", 1), 0, 1, NONE);
        dueWhite(painted("r1,1;", 1), 1, 1, NONE);
        dueWhite(painted("r1,3;", 1), 1, 1, 12);
        dueWhite(painted("r1,3;", 1), 0, 0, 22);
        dueWhite(laid("r1,2;h1,0;"), 0, 0, NONE);
        dueWhite(laid("r1,2;h1,0;"), 1, 0, 1);
        PaintersAtWall x = new PaintersAtWall();
        for (int wrongOne : new int[] {-1, 2, LEAST, MOST}) {
            due("white(" + wrongOne + ", 0)", x.white(wrongOne, 0), BAD);
            due("white(0, " + wrongOne + ")", x.white(0, wrongOne), BAD);
            due("white(1, " + wrongOne + ")", x.white(1, wrongOne), BAD);
        }
    }

    private static void orders() {
        promise = 22;
        due("none painted", new PaintersAtWall().orders(), 1);
        due("old ones are none of them", laid("r1,3;a0,1;").orders(), 1);
        due("two of 0, one of 1", painted("r1,3;h0,1;h1,2;", 1, 12, 21).orders(), 2);
        due("any", painted("r1,3;", 1, 12, 21).orders(), 6);
        due("with an old one", painted("r1,3;a0,1;", 12, 21).orders(), 2);
        due("one of 0 alone, two of both", painted("r1,3;n2;h0,3;h1,2;", 1, 12, 21).orders(), 2);
        PaintersAtWall nine = laid("r3,3;n1;m1,1;");
        for (int s = 0; s < 9; s++) {
            nine.paint(s, 1);
        }
        due("nine", nine.orders(), 362880);
        due("0 can not have been first", by1Alone().orders(), 0);
    }

    /** Rain took what 0 painted, then 1 painted: 0 has no such paint. */
    private static PaintersAtWall by1Alone() {
        PaintersAtWall x = painted("r1,3;h0,1;h1,2;", 1);
        x.rain(1);
        x.paint(1, 2);
        return x;
    }

    private static void only() {
        promise = 23;
        PaintersAtWall x = painted("r1,3;h0,1;h1,2;", 1, 12, 21);
        due("only(0)", x.only(0), 5);
        due("only(1)", x.only(1), 2);
        PaintersAtWall y = painted("r1,3;", 1, 12, 21);
        due("any of 0", y.only(0), 0);
        due("any of 1", y.only(1), 0);
        PaintersAtWall z = painted("r1,4;n2;h0,3;h1,2;a3,1;", 1, 12);
        due("what both can is 1's", z.only(1), 2);
        due("what 0 alone can", z.only(0), 1);
        PaintersAtWall one = painted("r1,1;", 1);
        due("a single one is 0's", one.only(0), 1);
        due("a single one is not 1's", one.only(1), 0);
        due("no orders, 0", by1Alone().only(0), 0);
        due("no orders, 1", by1Alone().only(1), 0);
        due("none painted", new PaintersAtWall().only(0), 0);
        for (int painter : new int[] {-1, 2, LEAST, MOST}) {
            due("only(" + painter + ")", x.only(painter), BAD);
        }
    }

    private static void dueOdds(PaintersAtWall x, long... parts) {
        for (int n = 0; n <= 2; n++) {
            due("odds(" + n + ", 0)", x.odds(n, 0), parts[2 * n]);
            due("odds(" + n + ", 1)", x.odds(n, 1), parts[2 * n + 1]);
        }
    }

    private static void odds() {
        promise = 24;
        dueOdds(laid("r1,2;n1;"), 0, 1, 0, 1, 0, 1);
        dueOdds(laid("r1,2;n1;m1,1;"), 0, 1, 0, 1, 1, 1);
        dueOdds(laid("r1,3;n1;"), 0, 1, 0, 1, 2, 3);
        dueOdds(laid("r1,1;h0,0;"), 1, 1, 1, 1, 1, 1);
        dueOdds(painted("r1,1;", 1), 0, 1, 0, 1, 0, 1);
        dueOdds(painted("r1,2;h0,1;", 1), 0, 1, 1, 1, 1, 1);
        dueOdds(painted("r1,3;n1;m1,1;h0,1;", 1), 0, 1, 0, 1, 0, 1);
        // Of (1, 1), (2, 1), (2, 2) the last one alone leaves 0, who has 1 alone, nothing.
        dueOdds(painted("r1,3;n2;h0,1;x1,2;m1,1;", 1), 0, 1, 1, 3, 1, 3);
        PaintersAtWall x = new PaintersAtWall();
        for (int n : new int[] {-1, 3, LEAST, MOST}) {
            due("odds(" + n + ", 0)", x.odds(n, 0), BAD);
        }
        for (int part : new int[] {-1, 2, LEAST, MOST}) {
            due("odds(0, " + part + ")", x.odds(0, part), BAD);
        }
    }

    private static void dueEvening(PaintersAtWall x, int z, int who, int stones) {
        due("evening(" + z + ", 0)", x.evening(z, 0), who);
        due("evening(" + z + ", 1)", x.evening(z, 1), stones);
    }

    private static void evening() {
        promise = 25;
        // z = 0: (1 x 1) modulo 3 is 1, the middle stone; z = 1: 22803 modulo 3 is 0, then the other end.
        dueEvening(laid("r1,3;n1;"), 0, 1, 1);
        dueEvening(laid("r1,3;n1;"), 1, 0, 2);
        dueEvening(painted("r1,3;n1;", 1), 9999, 0, 2);
        dueEvening(laid("r1,3;n1;a0,1;"), 7, 1, 2);
        dueEvening(laid("r1,1;w0;"), 9999, 0, 0);
        dueEvening(laid("r1,1;h0,0;"), 0, 0, 0);
        dueEvening(laid("r3,3;n3;m1,1;m2,2;m3,3;"), 9999, 1, 9);
        // z = 0: number 1 is (0, 2), which leaves 1 nothing; by PAINT first it were (1, 1), which does not.
        dueEvening(laid("r1,2;n2;h1,1;x1,2;m1,1;"), 0, 1, 1);
        PaintersAtWall x = new PaintersAtWall();
        for (int z : new int[] {-1, 10000, LEAST, MOST}) {
            due("evening(" + z + ", 0)", x.evening(z, 0), BAD);
        }
        for (int what : new int[] {-1, 2, LEAST, MOST}) {
            due("evening(0, " + what + ")", x.evening(0, what), BAD);
        }
        due("wall as it was", x.count(3), 0);
    }

    private static void keep() {
        promise = 26;
        PaintersAtWall x = new PaintersAtWall();
        due("one", x.keep(), 1);
        x.paint(0, 1);
        due("two", x.keep(), 2);
        due("no more", x.keep(), FULL);
        due("two still", x.count(6), 2);
        due("can be undone", x.count(5), 1);
    }

    private static void back() {
        promise = 27;
        PaintersAtWall x = laid("r1,9;n3;a8,1;");
        due("nothing", x.back(), NO);
        x.paint(3, 1);
        x.paint(0, 2);
        x.keep();
        x.paint(5, 3);
        x.keep();
        x.rain(3);
        x.tell(0, 1);
        due("one left", x.back(), 1);
        dueCounts("as kept last", x, 9, 3, 1, 4, 1, 0, 1, 13, 3);
        due("nothing is UNDONE", x.undo(), NO);
        due("the order", x.rain(1), 1);
        due("the last", x.stone(5, 0), 0);
        due("the last but one", x.stone(0, 0), 2);
        due("keep again", x.keep(), 2);
        due("back", x.back(), 1);
        due("none left", x.back(), 0);
        dueCounts("as kept first", x, 9, 3, 0, 3, 1, 0, 0, 13, 2);
        due("the order", x.rain(1), 1);
        due("stone 3 stays", x.stone(3, 0), 1);
        due("no more", x.back(), NO);
    }

    private static void count() {
        promise = 28;
        PaintersAtWall x = painted("r2,3;n3;a0,1;w5;", 12, 21, 43);
        x.tell(1, 1);
        x.tell(1, 1);
        x.keep();
        dueCounts("of all", x, 6, 3, 1, 4, 2, 3, 1, 16, 3);
        for (int what : new int[] {-1, 9, LEAST, MOST}) {
            due("count(" + what + ")", x.count(what), BAD);
        }
    }

    /** What is refused changes nothing, and what asks changes nothing. */
    private static void nothingChanges() {
        PaintersAtWall x = painted("r2,3;n3;a0,1;w5;", 12, 21, 43);
        x.keep();
        x.tell(3, 3);
        x.paint(0, 1);
        x.paint(9, 1);
        x.rain(0);
        x.pass();
        x.tell(0, 4);
        x.write(9, 0);
        x.count(-1);
        for (int i = 0; i < 2; i++) {
            x.ways();
            x.fewest();
            x.scrape(1);
            x.matters();
            x.beer(1);
            x.white(0, 1);
            x.white(1, 0);
            x.orders();
            x.only(0);
            x.odds(2, 0);
            x.evening(77, 0);
            x.judge();
            x.fault();
            dueCounts("as it was", x, 6, 3, 1, 4, 1, 3, 1, 16, 3);
        }
    }
}
