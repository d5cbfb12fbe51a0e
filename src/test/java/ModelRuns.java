import java.util.Arrays;
import java.util.Random;

// Runs of calls drawn with fixed seeds, each answer compared with that of a plain model.
// A run has 320 calls and then reads all 192 bytes: 512 in all, as many as the document speaks of.
public final class ModelRuns {
    private static final int RUNS = 2000;
    private static final int CALLS = 320;
    private static final int BAD = -1;
    private static final int NONE = -4;
    private static final int[] OUTSIDE = {
        Integer.MIN_VALUE, -17, -1, 12, 16, 17, 192, 256, Integer.MAX_VALUE - 15, Integer.MAX_VALUE
    };

    private static int wrong = 0;

    private final Random random;
    private final int[][] pages = new int[12][16];
    private final CompressedSwap swap = new CompressedSwap();
    private final int run;

    private ModelRuns(int run) {
        this.run = run;
        this.random = new Random(run);
    }

    private static boolean outside(int value, int limit) {
        return value < 0 || value >= limit;
    }

    private int draw(int limit) {
        if (random.nextInt(40) == 0) {
            return OUTSIDE[random.nextInt(OUTSIDE.length)];
        }
        return random.nextInt(limit);
    }

    // Mostly few values, so that equal bytes and equal pages do come up.
    private int drawByte() {
        return random.nextInt(3) == 0 ? draw(256) : draw(3);
    }

    private void due(String call, int got, int want) {
        if (got != want) {
            wrong++;
            System.out.println("run " + run + ": " + call + " answered " + got + ", due is " + want);
        }
    }

    private int modelWrite(int p, int i, int b) {
        if (outside(p, 12) || outside(i, 16) || outside(b, 256)) {
            return BAD;
        }
        int before = pages[p][i];
        pages[p][i] = b;
        return before;
    }

    private int modelFill(int p, int from, int to, int b) {
        if (outside(p, 12) || outside(from, 16) || outside(to, 16) || outside(b, 256)) {
            return BAD;
        }
        if (from > to) {
            return 0;
        }
        Arrays.fill(pages[p], from, to + 1, b);
        return to - from + 1;
    }

    private int modelCopy(int p, int q) {
        if (outside(p, 12) || outside(q, 12)) {
            return BAD;
        }
        int[] before = pages[p];
        pages[p] = pages[q].clone();
        int changed = 16;
        for (int i = 0; i < 16; i++) {
            changed -= before[i] == pages[p][i] ? 1 : 0;
        }
        return changed;
    }

    private int modelExchange(int p, int q) {
        if (outside(p, 12) || outside(q, 12)) {
            return BAD;
        }
        int[] held = pages[p];
        pages[p] = pages[q];
        pages[q] = held;
        return 0;
    }

    private int modelMove(int p, int from, int to, int n) {
        if (outside(p, 12) || outside(from, 16) || outside(to, 16) || outside(n, 17)) {
            return BAD;
        }
        if (Math.max(from, to) > 16 - n) {
            return BAD;
        }
        for (int i = 0; i < n; i++) {
            pages[p][to + i] = pages[p][from + i];
        }
        return 0;
    }

    private int modelMix(int p, int q) {
        if (outside(p, 12) || outside(q, 12)) {
            return BAD;
        }
        int[] other = pages[q].clone();
        Arrays.setAll(pages[p], i -> pages[p][i] ^ other[i]);
        return 0;
    }

    private int modelDrop(int p) {
        if (outside(p, 12)) {
            return BAD;
        }
        pages[p] = new int[16];
        return 0;
    }

    private int modelSum(int p) {
        if (outside(p, 12)) {
            return BAD;
        }
        int total = 0;
        for (int first = 0; first < 16; first++) {
            total += Arrays.stream(pages[p], first, 16).sum();
        }
        return total;
    }

    private int modelDiffer(int p, int q) {
        if (outside(p, 12) || outside(q, 12)) {
            return BAD;
        }
        int place = Arrays.mismatch(pages[p], pages[q]);
        return place < 0 ? NONE : place;
    }

    private int modelFind(int p, int from, int b) {
        if (outside(p, 12) || outside(from, 16) || outside(b, 256)) {
            return BAD;
        }
        int least = NONE;
        for (int i = 15; i >= from; i--) {
            least = pages[p][i] == b ? i : least;
        }
        return least;
    }

    private int modelBlank() {
        return (int) Arrays.stream(pages).filter(page -> Arrays.equals(page, new int[16])).count();
    }

    private int modelTwin(int p) {
        if (outside(p, 12)) {
            return BAD;
        }
        int least = NONE;
        for (int q = 11; q >= 0; q--) {
            least = q != p && Arrays.equals(pages[p], pages[q]) ? q : least;
        }
        return least;
    }

    private void step() {
        int p = draw(12);
        int q = draw(12);
        int i = draw(16);
        int j = draw(16);
        int n = draw(17);
        int b = drawByte();
        String with = " with p=" + p + " q=" + q + " i=" + i + " j=" + j + " n=" + n + " b=" + b;
        switch (random.nextInt(18)) {
            case 0, 1, 2 -> due("write" + with, swap.write(p, i, b), modelWrite(p, i, b));
            case 3 -> due("fill" + with, swap.fill(p, i, j, b), modelFill(p, i, j, b));
            case 4 -> due("copy" + with, swap.copy(p, q), modelCopy(p, q));
            case 5 -> due("exchange" + with, swap.exchange(p, q), modelExchange(p, q));
            case 6 -> due("move" + with, swap.move(p, i, j, n), modelMove(p, i, j, n));
            case 7 -> due("mix" + with, swap.mix(p, q), modelMix(p, q));
            case 8 -> due("drop" + with, swap.drop(p), modelDrop(p));
            case 9 -> due("sum" + with, swap.sum(p), modelSum(p));
            case 10 -> due("differ" + with, swap.differ(p, q), modelDiffer(p, q));
            case 11 -> due("find" + with, swap.find(p, i, b), modelFind(p, i, b));
            case 12 -> due("blank", swap.blank(), modelBlank());
            case 13 -> due("twin" + with, swap.twin(p), modelTwin(p));
            case 14 -> due("away" + with, swap.away(p), outside(p, 12) ? BAD : 0);
            case 15 -> swap.flush(n);
            case 16 -> swap.rest(n);
            default -> due("read" + with, swap.read(p, i), outside(p, 12) || outside(i, 16) ? BAD : pages[p][i]);
        }
    }

    private void go() {
        for (int call = 0; call < CALLS; call++) {
            step();
        }
        for (int p = 0; p < 12; p++) {
            for (int i = 0; i < 16; i++) {
                due("at the end read(" + p + ", " + i + ")", swap.read(p, i), pages[p][i]);
            }
        }
    }

    public static void main(String[] args) {
        for (int run = 0; run < RUNS && wrong < 20; run++) {
            new ModelRuns(run).go();
        }
        System.out.println(wrong == 0 ? "all answers are as due" : wrong + " answers are not as due");
        if (wrong != 0) {
            System.exit(1);
        }
    }
}
