import java.util.function.ToIntFunction;

// One method for each promise: ordinary inputs, edges and wrong inputs, with the answers written out.
// No object here gets more than the 512 calls for which the document speaks.
public final class PromiseTests {
    private static final int BAD = -1;
    private static final int NONE = -4;
    private static final int MIN = Integer.MIN_VALUE;
    private static final int MAX = Integer.MAX_VALUE;
    private static final int[] WRONG_PAGES = {MIN, -1, 12, 13, 16, 256, MAX};
    private static final int[] WRONG_PLACES = {MIN, -1, 16, 17, 192, MAX};
    private static final int[] WRONG_BYTES = {MIN, -128, -1, 256, 257, MAX};

    private static int wrong = 0;

    private static void due(String call, int got, int want) {
        if (got != want) {
            wrong++;
            System.out.println(call + " answered " + got + ", due is " + want);
        }
    }

    private static int patternByte(int p, int i) {
        return (p * 37 + i * 11 + 5) & 255;
    }

    // All bytes set, with no two pages the same: a byte put in a wrong place shows.
    private static CompressedSwap patterned() {
        CompressedSwap x = new CompressedSwap();
        for (int p = 0; p < 12; p++) {
            for (int i = 0; i < 16; i++) {
                x.write(p, i, patternByte(p, i));
            }
        }
        return x;
    }

    private static int[][] pattern() {
        int[][] pages = new int[12][16];
        for (int p = 0; p < 12; p++) {
            for (int i = 0; i < 16; i++) {
                pages[p][i] = patternByte(p, i);
            }
        }
        return pages;
    }

    private static void dueState(String after, CompressedSwap x, int[][] want) {
        for (int p = 0; p < 12; p++) {
            for (int i = 0; i < 16; i++) {
                due("after " + after + ": read(" + p + ", " + i + ")", x.read(p, i), want[p][i]);
            }
        }
    }

    private static void refused(String call, ToIntFunction<CompressedSwap> it) {
        CompressedSwap x = patterned();
        due(call, it.applyAsInt(x), BAD);
        dueState(call, x, pattern());
    }

    private static void duePage(String after, CompressedSwap x, int p, int... want) {
        for (int i = 0; i < 16; i++) {
            due("after " + after + ": read(" + p + ", " + i + ")", x.read(p, i), want[i]);
        }
    }

    private static void setPage(CompressedSwap x, int p, int... values) {
        for (int i = 0; i < values.length; i++) {
            x.write(p, i, values[i]);
        }
    }

    private static void newObject() {
        CompressedSwap x = new CompressedSwap();
        dueState("new", x, new int[12][16]);
        due("blank()", x.blank(), 12);
        CompressedSwap used = patterned();
        dueState("new beside a used object", new CompressedSwap(), new int[12][16]);
        dueState("another object was made", used, pattern());
    }

    private static void write() {
        CompressedSwap x = new CompressedSwap();
        due("write(0, 0, 255)", x.write(0, 0, 255), 0);
        due("write(0, 0, 128)", x.write(0, 0, 128), 255);
        due("write(0, 0, 0)", x.write(0, 0, 0), 128);
        due("write(0, 0, 1)", x.write(0, 0, 1), 0);
        due("write(11, 15, 200)", x.write(11, 15, 200), 0);
        due("write(11, 15, 200) again", x.write(11, 15, 200), 200);
        due("write(5, 7, 77)", x.write(5, 7, 77), 0);
        int[][] want = new int[12][16];
        want[0][0] = 1;
        want[11][15] = 200;
        want[5][7] = 77;
        dueState("writes", x, want);
        for (int p : WRONG_PAGES) {
            refused("write(" + p + ", 0, 0)", y -> y.write(p, 0, 0));
        }
        for (int i : WRONG_PLACES) {
            refused("write(1, " + i + ", 0)", y -> y.write(1, i, 0));
        }
        for (int b : WRONG_BYTES) {
            refused("write(1, 1, " + b + ")", y -> y.write(1, 1, b));
        }
    }

    private static void read() {
        dueState("the pattern", patterned(), pattern());
        CompressedSwap x = new CompressedSwap();
        for (int b = 0; b < 256; b++) {
            x.write(3, 4, b);
            due("read(3, 4) of " + b, x.read(3, 4), b);
        }
        for (int p : WRONG_PAGES) {
            refused("read(" + p + ", 0)", y -> y.read(p, 0));
        }
        for (int i : WRONG_PLACES) {
            refused("read(1, " + i + ")", y -> y.read(1, i));
        }
    }

    private static void fill() {
        CompressedSwap x = patterned();
        int[][] want = pattern();
        due("fill(0, 0, 15, 255)", x.fill(0, 0, 15, 255), 16);
        due("fill(3, 4, 6, 0)", x.fill(3, 4, 6, 0), 3);
        due("fill(4, 9, 9, 1)", x.fill(4, 9, 9, 1), 1);
        due("fill(5, 0, 0, 2)", x.fill(5, 0, 0, 2), 1);
        due("fill(11, 15, 15, 3)", x.fill(11, 15, 15, 3), 1);
        due("fill(6, 5, 4, 4)", x.fill(6, 5, 4, 4), 0);
        due("fill(6, 15, 0, 4)", x.fill(6, 15, 0, 4), 0);
        java.util.Arrays.fill(want[0], 255);
        want[3][4] = 0;
        want[3][5] = 0;
        want[3][6] = 0;
        want[4][9] = 1;
        want[5][0] = 2;
        want[11][15] = 3;
        dueState("fills", x, want);
        CompressedSwap same = new CompressedSwap();
        due("fill(2, 1, 8, 0), bytes that stay count too", same.fill(2, 1, 8, 0), 8);
        for (int p : WRONG_PAGES) {
            refused("fill(" + p + ", 0, 1, 0)", y -> y.fill(p, 0, 1, 0));
        }
        for (int i : WRONG_PLACES) {
            refused("fill(1, " + i + ", 3, 0)", y -> y.fill(1, i, 3, 0));
            refused("fill(1, 3, " + i + ", 0)", y -> y.fill(1, 3, i, 0));
        }
        for (int b : WRONG_BYTES) {
            refused("fill(1, 0, 15, " + b + ")", y -> y.fill(1, 0, 15, b));
            refused("fill(1, 5, 3, " + b + ")", y -> y.fill(1, 5, 3, b));
        }
    }

    private static void copy() {
        CompressedSwap x = patterned();
        int[][] want = pattern();
        due("copy(0, 11)", x.copy(0, 11), 16);
        due("copy(0, 11) again", x.copy(0, 11), 0);
        due("write(0, 3, 0)", x.write(0, 3, 0), want[11][3]);
        due("copy(0, 11), one byte differs", x.copy(0, 11), 1);
        due("copy(4, 4)", x.copy(4, 4), 0);
        due("copy(11, 2)", x.copy(11, 2), 16);
        want[0] = want[11].clone();
        want[11] = want[2].clone();
        dueState("copies", x, want);
        CompressedSwap part = new CompressedSwap();
        part.fill(1, 4, 8, 9);
        due("copy(2, 1), five bytes differ", part.copy(2, 1), 5);
        part.write(1, 4, 1);
        due("read(2, 4), the pages are apart after a copy", part.read(2, 4), 9);
        for (int p : WRONG_PAGES) {
            refused("copy(" + p + ", 0)", y -> y.copy(p, 0));
            refused("copy(0, " + p + ")", y -> y.copy(0, p));
            refused("copy(" + p + ", " + p + ")", y -> y.copy(p, p));
        }
    }

    private static void exchange() {
        CompressedSwap x = patterned();
        int[][] want = pattern();
        due("exchange(0, 11)", x.exchange(0, 11), 0);
        due("exchange(5, 5)", x.exchange(5, 5), 0);
        due("exchange(3, 2)", x.exchange(3, 2), 0);
        due("exchange(2, 7)", x.exchange(2, 7), 0);
        int[][] from = pattern();
        want[0] = from[11];
        want[11] = from[0];
        want[3] = from[2];
        want[2] = from[7];
        want[7] = from[3];
        dueState("exchanges", x, want);
        for (int p : WRONG_PAGES) {
            refused("exchange(" + p + ", 0)", y -> y.exchange(p, 0));
            refused("exchange(0, " + p + ")", y -> y.exchange(0, p));
            refused("exchange(" + p + ", " + p + ")", y -> y.exchange(p, p));
        }
    }

    private static void move() {
        CompressedSwap x = new CompressedSwap();
        setPage(x, 0, 1, 2, 3, 4, 5, 6, 7, 8, 9, 10, 11, 12, 13, 14, 15, 16);
        for (int p = 1; p < 8; p++) {
            x.copy(p, 0);
        }
        due("move(0, 0, 1, 15)", x.move(0, 0, 1, 15), 0);
        duePage("move(0, 0, 1, 15)", x, 0, 1, 1, 1, 1, 1, 1, 1, 1, 1, 1, 1, 1, 1, 1, 1, 1);
        due("move(1, 0, 3, 8)", x.move(1, 0, 3, 8), 0);
        duePage("move(1, 0, 3, 8)", x, 1, 1, 2, 3, 1, 2, 3, 1, 2, 3, 1, 2, 12, 13, 14, 15, 16);
        due("move(2, 3, 0, 8)", x.move(2, 3, 0, 8), 0);
        duePage("move(2, 3, 0, 8)", x, 2, 4, 5, 6, 7, 8, 9, 10, 11, 9, 10, 11, 12, 13, 14, 15, 16);
        due("move(3, 0, 8, 8)", x.move(3, 0, 8, 8), 0);
        duePage("move(3, 0, 8, 8)", x, 3, 1, 2, 3, 4, 5, 6, 7, 8, 1, 2, 3, 4, 5, 6, 7, 8);
        due("move(4, 0, 0, 16)", x.move(4, 0, 0, 16), 0);
        due("move(4, 15, 15, 1)", x.move(4, 15, 15, 1), 0);
        due("move(4, 15, 3, 0)", x.move(4, 15, 3, 0), 0);
        duePage("moves that change nothing", x, 4, 1, 2, 3, 4, 5, 6, 7, 8, 9, 10, 11, 12, 13, 14, 15, 16);
        due("move(5, 15, 0, 1)", x.move(5, 15, 0, 1), 0);
        duePage("move(5, 15, 0, 1)", x, 5, 16, 2, 3, 4, 5, 6, 7, 8, 9, 10, 11, 12, 13, 14, 15, 16);
        due("move(6, 0, 15, 1)", x.move(6, 0, 15, 1), 0);
        duePage("move(6, 0, 15, 1)", x, 6, 1, 2, 3, 4, 5, 6, 7, 8, 9, 10, 11, 12, 13, 14, 15, 1);
        duePage("moves in other pages", x, 7, 1, 2, 3, 4, 5, 6, 7, 8, 9, 10, 11, 12, 13, 14, 15, 16);
        moveRefused();
    }

    private static void moveRefused() {
        for (int p : WRONG_PAGES) {
            refused("move(" + p + ", 0, 1, 1)", y -> y.move(p, 0, 1, 1));
        }
        for (int i : WRONG_PLACES) {
            refused("move(1, " + i + ", 0, 1)", y -> y.move(1, i, 0, 1));
            refused("move(1, 0, " + i + ", 1)", y -> y.move(1, 0, i, 1));
            refused("move(1, " + i + ", 0, 0)", y -> y.move(1, i, 0, 0));
            refused("move(1, 0, " + i + ", 0)", y -> y.move(1, 0, i, 0));
        }
        for (int n : new int[] {MIN, -16, -1, 17, 18, MAX - 15, MAX}) {
            refused("move(1, 0, 0, " + n + ")", y -> y.move(1, 0, 0, n));
            refused("move(1, 15, 15, " + n + ")", y -> y.move(1, 15, 15, n));
        }
        refused("move(1, 1, 0, 16)", y -> y.move(1, 1, 0, 16));
        refused("move(1, 0, 1, 16)", y -> y.move(1, 0, 1, 16));
        refused("move(11, 15, 0, 2)", y -> y.move(11, 15, 0, 2));
        refused("move(11, 0, 15, 2)", y -> y.move(11, 0, 15, 2));
    }

    private static void mix() {
        CompressedSwap x = patterned();
        int[][] want = pattern();
        due("mix(0, 11)", x.mix(0, 11), 0);
        due("mix(5, 5)", x.mix(5, 5), 0);
        due("mix(11, 3)", x.mix(11, 3), 0);
        for (int i = 0; i < 16; i++) {
            want[0][i] ^= want[11][i];
            want[5][i] = 0;
            want[11][i] ^= want[3][i];
        }
        dueState("mixes", x, want);
        CompressedSwap few = new CompressedSwap();
        setPage(few, 0, 255, 12, 0, 170);
        setPage(few, 1, 1, 10, 7, 85);
        due("mix(0, 1)", few.mix(0, 1), 0);
        duePage("mix(0, 1)", few, 0, 254, 6, 7, 255, 0, 0, 0, 0, 0, 0, 0, 0, 0, 0, 0, 0);
        duePage("mix(0, 1)", few, 1, 1, 10, 7, 85, 0, 0, 0, 0, 0, 0, 0, 0, 0, 0, 0, 0);
        for (int p : WRONG_PAGES) {
            refused("mix(" + p + ", 0)", y -> y.mix(p, 0));
            refused("mix(0, " + p + ")", y -> y.mix(0, p));
            refused("mix(" + p + ", " + p + ")", y -> y.mix(p, p));
        }
    }

    private static void drop() {
        CompressedSwap x = patterned();
        int[][] want = pattern();
        due("drop(0)", x.drop(0), 0);
        due("drop(6)", x.drop(6), 0);
        due("drop(6) again", x.drop(6), 0);
        due("drop(11)", x.drop(11), 0);
        want[0] = new int[16];
        want[6] = new int[16];
        want[11] = new int[16];
        dueState("drops", x, want);
        for (int p : WRONG_PAGES) {
            refused("drop(" + p + ")", y -> y.drop(p));
        }
    }

    private static void sum() {
        CompressedSwap x = new CompressedSwap();
        due("sum(0) of zeros", x.sum(0), 0);
        for (int i = 0; i < 16; i++) {
            x.drop(0);
            x.write(0, i, 255);
            due("sum(0) with 255 at " + i, x.sum(0), 255 * (i + 1));
        }
        x.fill(11, 0, 15, 255);
        due("sum(11), the greatest", x.sum(11), 34680);
        setPage(x, 5, 3, 1, 4);
        due("sum(5)", x.sum(5), 17);
        due("sum(4) beside set pages", x.sum(4), 0);
        due("sum(10) beside set pages", x.sum(10), 0);
        for (int p : WRONG_PAGES) {
            refused("sum(" + p + ")", y -> y.sum(p));
        }
    }

    private static void differ() {
        CompressedSwap x = new CompressedSwap();
        due("differ(0, 11) of zeros", x.differ(0, 11), NONE);
        for (int i = 15; i >= 0; i--) {
            x.write(11, i, 255);
            due("differ(0, 11) from " + i, x.differ(0, 11), i);
            due("differ(11, 0) from " + i, x.differ(11, 0), i);
        }
        due("differ(11, 11)", x.differ(11, 11), NONE);
        x.copy(3, 11);
        due("differ(3, 11)", x.differ(3, 11), NONE);
        x.write(3, 9, 254);
        due("differ(3, 11), one byte between", x.differ(3, 11), 9);
        CompressedSwap y0 = patterned();
        due("differ(2, 8)", y0.differ(2, 8), 0);
        dueState("differ(2, 8)", y0, pattern());
        for (int p : WRONG_PAGES) {
            refused("differ(" + p + ", 0)", y -> y.differ(p, 0));
            refused("differ(0, " + p + ")", y -> y.differ(0, p));
            refused("differ(" + p + ", " + p + ")", y -> y.differ(p, p));
        }
    }

    private static void find() {
        CompressedSwap x = new CompressedSwap();
        setPage(x, 2, 9, 0, 9, 255, 0, 9);
        x.write(2, 15, 128);
        x.write(3, 0, 77);
        due("find(2, 0, 9)", x.find(2, 0, 9), 0);
        due("find(2, 1, 9)", x.find(2, 1, 9), 2);
        due("find(2, 2, 9)", x.find(2, 2, 9), 2);
        due("find(2, 3, 9)", x.find(2, 3, 9), 5);
        due("find(2, 6, 9)", x.find(2, 6, 9), NONE);
        due("find(2, 0, 255)", x.find(2, 0, 255), 3);
        due("find(2, 4, 255)", x.find(2, 4, 255), NONE);
        due("find(2, 0, 0)", x.find(2, 0, 0), 1);
        due("find(2, 0, 128)", x.find(2, 0, 128), 15);
        due("find(2, 15, 128)", x.find(2, 15, 128), 15);
        due("find(2, 15, 0)", x.find(2, 15, 0), NONE);
        due("find(2, 0, 77), only the next page has it", x.find(2, 0, 77), NONE);
        due("find(11, 15, 0)", x.find(11, 15, 0), 15);
        due("find(11, 0, 1)", x.find(11, 0, 1), NONE);
        for (int p : WRONG_PAGES) {
            refused("find(" + p + ", 0, 0)", y -> y.find(p, 0, 0));
        }
        for (int i : WRONG_PLACES) {
            refused("find(1, " + i + ", 0)", y -> y.find(1, i, 0));
        }
        for (int b : WRONG_BYTES) {
            refused("find(1, 0, " + b + ")", y -> y.find(1, 0, b));
        }
    }

    private static void blank() {
        CompressedSwap x = new CompressedSwap();
        for (int p = 0; p < 12; p++) {
            due("blank() with " + p + " pages set", x.blank(), 12 - p);
            x.write(p, (p * 5) % 16, 128);
        }
        due("blank() with all pages set", x.blank(), 0);
        x.drop(11);
        x.drop(0);
        due("blank() after two drops", x.blank(), 2);
        x.mix(4, 4);
        due("blank() after mix(4, 4)", x.blank(), 3);
        for (int i = 0; i < 16; i++) {
            CompressedSwap one = new CompressedSwap();
            one.write(7, i, 1);
            due("blank() with byte " + i + " of a page set", one.blank(), 11);
        }
        CompressedSwap y = patterned();
        due("blank() of the pattern", y.blank(), 0);
        dueState("blank()", y, pattern());
    }

    private static void twin() {
        CompressedSwap x = new CompressedSwap();
        due("twin(0) of a new object", x.twin(0), 1);
        for (int p = 1; p < 12; p++) {
            due("twin(" + p + ") of a new object", x.twin(p), 0);
        }
        CompressedSwap y0 = patterned();
        for (int p = 0; p < 12; p++) {
            due("twin(" + p + ") of the pattern", y0.twin(p), NONE);
        }
        y0.copy(11, 4);
        due("twin(4)", y0.twin(4), 11);
        due("twin(11)", y0.twin(11), 4);
        y0.copy(7, 4);
        due("twin(4) of three", y0.twin(4), 7);
        due("twin(7) of three", y0.twin(7), 4);
        due("twin(11) of three", y0.twin(11), 4);
        y0.write(4, 15, y0.read(4, 15) ^ 1);
        due("twin(4), the last byte differs", y0.twin(4), NONE);
        due("twin(7), the last byte of page 4 differs", y0.twin(7), 11);
        int[][] want = pattern();
        want[11] = pattern()[4];
        want[7] = pattern()[4];
        want[4][15] ^= 1;
        dueState("twins", y0, want);
        for (int p : WRONG_PAGES) {
            refused("twin(" + p + ")", y -> y.twin(p));
        }
    }

    private static void away() {
        CompressedSwap x = patterned();
        for (int p = 0; p < 12; p++) {
            due("away(" + p + ")", x.away(p), 0);
            due("away(" + p + ") again", x.away(p), 0);
        }
        dueState("away of all pages", x, pattern());
        CompressedSwap one = new CompressedSwap();
        one.write(3, 3, 3);
        one.away(3);
        due("write(3, 3, 4) of a page put away", one.write(3, 3, 4), 3);
        one.away(3);
        due("blank() with a page put away", one.blank(), 11);
        due("copy(5, 3) of a page put away", one.copy(5, 3), 1);
        due("twin(3) of a page put away", one.twin(3), 5);
        due("read(3, 3) of a page put away", one.read(3, 3), 4);
        for (int p : WRONG_PAGES) {
            refused("away(" + p + ")", y -> y.away(p));
        }
    }

    private static void flush() {
        for (int n : new int[] {MIN, -1, 0, 1, 2, 3, 4, 5, 100, MAX}) {
            CompressedSwap x = patterned();
            x.flush(n);
            for (int p = 0; p < 12; p++) {
                x.away(p);
            }
            x.flush(n);
            x.flush(n);
            dueState("flush(" + n + ")", x, pattern());
            due("sum(0) after flush(" + n + ")", x.sum(0), 15640);
            CompressedSwap y = new CompressedSwap();
            y.flush(n);
            due("blank() after flush(" + n + ")", y.blank(), 12);
        }
    }

    private static void rest() {
        for (int n : new int[] {MIN, -1, 0, 1, 2, 11, 12, 13, 100, MAX}) {
            CompressedSwap x = patterned();
            x.rest(n);
            for (int p = 0; p < 12; p++) {
                x.away(p);
            }
            x.rest(n);
            x.flush(4);
            x.rest(n);
            dueState("rest(" + n + ")", x, pattern());
            due("sum(0) after rest(" + n + ")", x.sum(0), 15640);
            CompressedSwap y = new CompressedSwap();
            y.rest(n);
            due("blank() after rest(" + n + ")", y.blank(), 12);
        }
    }

    public static void main(String[] args) {
        newObject();
        write();
        read();
        fill();
        copy();
        exchange();
        move();
        mix();
        drop();
        sum();
        differ();
        find();
        blank();
        twin();
        away();
        flush();
        rest();
        System.out.println(wrong == 0 ? "all answers are as due" : wrong + " answers are not as due");
        if (wrong != 0) {
            System.exit(1);
        }
    }
}
