import java.lang.management.ManagementFactory;
import java.util.Random;

/** What an object and its calls make, and that no call throws, whatever its arguments. */
public final class RoomTest {
    private static final int[] ODD = {0, 1, 2, 3, 8, 9, 10, 31, 32, 33, 63, 64, 200, 9999, 10000, -1, -2, -31, -32, -33,
        Integer.MIN_VALUE, Integer.MIN_VALUE + 1, Integer.MAX_VALUE, 1 << 16, 1 << 27, 1 << 30};
    private static int wrong = 0;

    public static void main(String[] args) {
        callsMakeNothing();
        nothingThrows();
        System.out.println(wrong == 0 ? "calls make nothing and never throw" : wrong + " wrong");
        if (wrong != 0) {
            System.exit(1);
        }
    }

    private static long made() {
        return ((com.sun.management.ThreadMXBean) ManagementFactory.getThreadMXBean()).getThreadAllocatedBytes(Thread.currentThread().getId());
    }

    private static void write(PaintersAtWall x, String text) {
        for (int i = 0; i < text.length(); i++) {
            x.write(1, text.charAt(i));
        }
    }

    private static void callsMakeNothing() {
        made();
        long before = made();
        PaintersAtWall[] some = new PaintersAtWall[20];
        for (int i = 0; i < some.length; i++) {
            some[i] = new PaintersAtWall();
        }
        long each = (made() - before) / some.length;
        // 7.3 million elements are there for all objects of a run: this leaves room for some hundred of them.
        if (each > 40000) {
            wrong++;
            System.out.println("an object takes " + each + " bytes");
        }
        PaintersAtWall x = some[0];
        write(x, "r3,3;n3;m1,3;");
        x.lay();
        all(x, 0, 0, 0L);
        before = made();
        for (int i = 0; i < 300; i++) {
            all(x, i % 9, i % 3, i);
        }
        long calls = made() - before;
        if (calls > 20000) {
            wrong++;
            System.out.println("the calls made " + calls + " bytes");
        }
    }

    private static void all(PaintersAtWall x, int a, int b, long v) {
        x.paint(a, b);
        x.may(a);
        x.stone(a, b);
        x.touch(a, b);
        x.tell(a, b);
        x.judge();
        x.noRow();
        x.ways();
        x.fewest();
        x.scrape(b);
        x.matters();
        x.beer(b);
        x.white(b, 0);
        x.white(0, b);
        x.orders();
        x.only(b);
        x.odds(b, 1);
        x.odds(a, b);
        x.evening(a, b);
        x.evening(0, b);
        x.keep();
        x.rain(b);
        x.rain(a);
        x.undo();
        x.back();
        x.pass();
        x.count(a);
        x.fault();
        x.write(a, v);
        if (v % 7 == 3) {
            x.lay();
            x.wipe();
        }
    }

    private static void nothingThrows() {
        Random r = new Random(4);
        for (int run = 0; run < 300; run++) {
            PaintersAtWall x = new PaintersAtWall();
            write(x, new String[] {"", "r1,1;n1;", "r3,3;n3;", "r9,1;n3;m1,1;m2,2;m3,3;", "r1,9;n2;x1,2;", "r2,2;w0;w1;w2;w3;",
                "n3;h0,0;h1,0;", "r3,3;n1;m1,1;h0,1;h1,0;"}[run % 8]);
            x.lay();
            try {
                for (int i = 0; i < 15; i++) {
                    all(x, ODD[r.nextInt(ODD.length)], ODD[r.nextInt(ODD.length)], r.nextLong());
                    all(x, r.nextInt(9), r.nextInt(4), r.nextLong());
                }
            } catch (RuntimeException | StackOverflowError e) {
                wrong++;
                System.out.println("run " + run + " threw " + e);
            }
        }
    }
}
