import java.util.Arrays;
import java.util.List;
import java.util.function.Consumer;
import java.util.function.ToIntBiFunction;

// Whole ranges instead of chosen values: a fault at one page, place, byte or number alone shows too.
// flush and rest have no answer to sweep; what they must leave alone is in BoundaryTests.
// No object gets more than the 512 calls for which the document speaks.
public final class SweepTests {
    private static final int BAD = -1;
    private static final int NONE = -4;
    private static final int SHOWN = 20;

    private static int wrong = 0;

    // The arguments come apart from the name, so that no text is made for the millions of right answers.
    private static void due(int got, int want, String call, int... args) {
        if (got != want) {
            wrong++;
            if (wrong <= SHOWN) {
                System.out.println(call + Arrays.toString(args) + " answered " + got + ", due is " + want);
            }
        }
    }

    private static int[][] pattern() {
        int[][] pages = new int[12][16];
        for (int at = 0; at < 192; at++) {
            pages[at / 16][at % 16] = (at / 16 * 53 + at % 16 * 29 + 7) & 255;
        }
        return pages;
    }

    // All bytes set, with no two pages the same. 192 calls.
    private static CompressedSwap patterned() {
        CompressedSwap x = new CompressedSwap();
        int[][] pages = pattern();
        for (int at = 0; at < 192; at++) {
            x.write(at / 16, at % 16, pages[at / 16][at % 16]);
        }
        return x;
    }

    private static void dueState(CompressedSwap x, int[][] want, String after, int... args) {
        for (int at = 0; at < 192; at++) {
            int got = x.read(at / 16, at % 16);
            if (got != want[at / 16][at % 16]) {
                due(got, want[at / 16][at % 16], "read of byte " + at + " after " + after, args);
            }
        }
    }

    // Page p has the byte b at the places whose bits are set in mask, else 0. 16 calls.
    private static void setByMask(CompressedSwap x, int p, int mask, int b) {
        for (int i = 0; i < 16; i++) {
            x.write(p, i, (mask >> i & 1) * b);
        }
    }

    private static int lowestBit(int mask) {
        return mask == 0 ? NONE : Integer.numberOfTrailingZeros(mask);
    }

    // ---- Promises 2 to 4 ----

    // Every byte over every other byte, at all places of all pages; 384 calls to an object.
    private static void writeAndRead() {
        for (int at = 0; at < 192; at++) {
            for (int old = 0; old < 256; old++) {
                overwrite(at / 16, at % 16, old, 0);
                overwrite(at / 16, at % 16, old, 128);
            }
        }
    }

    private static void overwrite(int p, int i, int old, int first) {
        CompressedSwap x = new CompressedSwap();
        int before = 0;
        for (int b = first; b < first + 128; b++) {
            due(x.write(p, i, old), before, "write", p, i, old);
            due(x.write(p, i, b), old, "write", p, i, b);
            due(x.read(p, i), b, "read", p, i);
            before = b;
        }
    }

    private static void writeBesideOthers() {
        for (int at = 0; at < 192; at++) {
            for (int b = 0; b < 256; b++) {
                CompressedSwap x = patterned();
                int[][] want = pattern();
                want[at / 16][at % 16] = b;
                x.write(at / 16, at % 16, b);
                dueState(x, want, "write", at / 16, at % 16, b);
            }
        }
    }

    private static void fill() {
        for (int p = 0; p < 12; p++) {
            for (int from = 0; from < 16; from++) {
                for (int to = 0; to < 16; to++) {
                    for (int b = 0; b < 256; b++) {
                        fillCase(p, from, to, b);
                    }
                }
            }
        }
    }

    private static void fillCase(int p, int from, int to, int b) {
        CompressedSwap x = patterned();
        int[][] want = pattern();
        int many = Math.max(0, to - from + 1);
        Arrays.fill(want[p], from, from + many, b);
        due(x.fill(p, from, to, b), many, "fill", p, from, to, b);
        dueState(x, want, "fill", p, from, to, b);
    }

    // ---- Promises 5 to 9 ----

    private static void pairs() {
        for (int p = 0; p < 12; p++) {
            for (int q = 0; q < 12; q++) {
                copyCase(p, q);
                exchangeCase(p, q);
                mixCase(p, q);
            }
        }
    }

    private static void copyCase(int p, int q) {
        CompressedSwap x = patterned();
        int[][] want = pattern();
        int changed = 0;
        for (int i = 0; i < 16; i++) {
            changed += want[p][i] == want[q][i] ? 0 : 1;
            want[p][i] = want[q][i];
        }
        due(x.copy(p, q), changed, "copy", p, q);
        dueState(x, want, "copy", p, q);
    }

    private static void exchangeCase(int p, int q) {
        CompressedSwap x = patterned();
        int[][] want = pattern();
        want[p] = pattern()[q];
        want[q] = pattern()[p];
        due(x.exchange(p, q), 0, "exchange", p, q);
        dueState(x, want, "exchange", p, q);
    }

    private static void mixCase(int p, int q) {
        CompressedSwap x = patterned();
        int[][] want = pattern();
        for (int i = 0; i < 16; i++) {
            want[p][i] = pattern()[p][i] ^ pattern()[q][i];
        }
        due(x.mix(p, q), 0, "mix", p, q);
        dueState(x, want, "mix", p, q);
    }

    private static void copyEveryMask() {
        for (int mask = 0; mask < 65536; mask++) {
            CompressedSwap x = new CompressedSwap();
            setByMask(x, 7, mask, 200);
            due(x.copy(2, 7), Integer.bitCount(mask), "copy by mask", mask);
            due(x.copy(7, 3), Integer.bitCount(mask), "copy of zeros by mask", mask);
            for (int i = 0; i < 16; i++) {
                due(x.read(2, i), (mask >> i & 1) * 200, "read after copy by mask", mask, i);
                due(x.read(7, i), 0, "read after copy of zeros by mask", mask, i);
            }
        }
    }

    private static void mixEveryPairOfBytes() {
        for (int a = 0; a < 256; a++) {
            for (int b = 0; b < 256; b++) {
                CompressedSwap x = new CompressedSwap();
                x.fill(4, 0, 15, a);
                x.fill(9, 0, 15, b);
                due(x.mix(4, 9), 0, "mix of bytes", a, b);
                for (int i = 0; i < 16; i++) {
                    due(x.read(4, i), a ^ b, "read after mix of bytes", a, b, i);
                    due(x.read(9, i), b, "read of the other page after mix of bytes", a, b, i);
                }
            }
        }
    }

    private static void move() {
        for (int p = 0; p < 12; p++) {
            for (int from = 0; from < 16; from++) {
                for (int to = 0; to < 16; to++) {
                    for (int n = -2; n <= 18; n++) {
                        moveCase(p, from, to, n);
                    }
                }
            }
        }
    }

    private static void moveCase(int p, int from, int to, int n) {
        CompressedSwap x = patterned();
        int[][] want = pattern();
        boolean taken = n >= 0 && from + n <= 16 && to + n <= 16;
        for (int i = 0; taken && i < n; i++) {
            want[p][to + i] = want[p][from + i];
        }
        due(x.move(p, from, to, n), taken ? 0 : BAD, "move", p, from, to, n);
        dueState(x, want, "move", p, from, to, n);
    }

    private static void drop() {
        for (int p = 0; p < 12; p++) {
            for (int b = 0; b < 256; b++) {
                CompressedSwap x = patterned();
                int[][] want = pattern();
                want[p] = new int[16];
                x.fill(p, 0, 15, b);
                due(x.drop(p), 0, "drop of bytes", p, b);
                dueState(x, want, "drop of bytes", p, b);
            }
        }
    }

    // ---- Promises 10 to 14 ----

    private static void sum() {
        for (int at = 0; at < 192; at++) {
            for (int b = 0; b < 256; b++) {
                CompressedSwap x = new CompressedSwap();
                x.write(at / 16, at % 16, b);
                due(x.sum(at / 16), (at % 16 + 1) * b, "sum with one byte set", at, b);
                x.fill(at / 16, 0, 15, 255);
                x.write(at / 16, at % 16, b);
                int less = (at % 16 + 1) * (255 - b);
                due(x.sum(at / 16), 34680 - less, "sum of a full page with one byte set", at, b);
            }
        }
    }

    private static void differ() {
        for (int p = 0; p < 12; p++) {
            for (int q = 0; q < 12; q++) {
                for (int i = 0; p != q && i < 16; i++) {
                    differAt(p, q, i);
                }
            }
        }
    }

    // 1 call and 255 times 2: 511.
    private static void differAt(int p, int q, int i) {
        CompressedSwap x = new CompressedSwap();
        x.write(q, i, 255);
        for (int b = 1; b < 256; b++) {
            x.write(p, i, b);
            due(x.differ(p, q), b == 255 ? NONE : i, "differ", p, q, i, b);
        }
    }

    private static void searchEveryMask() {
        for (int mask = 0; mask < 65536; mask++) {
            CompressedSwap x = new CompressedSwap();
            setByMask(x, 6, mask, 1);
            due(x.differ(6, 0), lowestBit(mask), "differ by mask", mask);
            due(x.differ(11, 6), lowestBit(mask), "differ by mask", mask);
            due(x.blank(), mask == 0 ? 12 : 11, "blank by mask", mask);
            due(x.twin(6), mask == 0 ? 0 : NONE, "twin by mask", mask);
            for (int from = 0; from < 16; from++) {
                due(x.find(6, from, 1), lowestBit(mask >> from << from), "find of 1 by mask", mask, from);
                int zeros = ~mask & 65535;
                due(x.find(6, from, 0), lowestBit(zeros >> from << from), "find of 0 by mask", mask, from);
            }
        }
    }

    private static void find() {
        for (int p = 0; p < 12; p++) {
            for (int b = 0; b < 256; b++) {
                for (int place = 0; place < 16; place++) {
                    findAt(p, b, place);
                }
            }
        }
    }

    private static void findAt(int p, int b, int place) {
        CompressedSwap x = new CompressedSwap();
        x.fill(p, 0, 15, b ^ 1);
        for (int from = 0; from < 16; from++) {
            due(x.find(p, from, b), NONE, "find in a page without it", p, from, b);
        }
        x.write(p, place, b);
        for (int from = 0; from < 16; from++) {
            due(x.find(p, from, b), from <= place ? place : NONE, "find", p, from, b);
        }
    }

    // Every set of pages is empty once, and every set of pages is alike once.
    private static void blankAndTwinEverySet() {
        for (int set = 0; set < 4096; set++) {
            CompressedSwap x = new CompressedSwap();
            for (int p = 0; p < 12; p++) {
                x.write(p, 15, (set >> p & 1) == 0 ? p + 1 : 0);
            }
            due(x.blank(), Integer.bitCount(set), "blank with empty pages", set);
            dueTwins(x, set, "twin with empty pages");
            for (int p = 0; p < 12; p++) {
                x.fill(p, 0, 14, 255);
            }
            due(x.blank(), 0, "blank without empty pages", set);
            dueTwins(x, set, "twin with full pages");
        }
    }

    private static void dueTwins(CompressedSwap x, int set, String what) {
        for (int p = 0; p < 12; p++) {
            int others = set & ~(1 << p);
            due(x.twin(p), (set >> p & 1) == 0 ? NONE : lowestBit(others), what, set, p);
        }
    }

    private static void away() {
        for (int p = 0; p < 12; p++) {
            due(patterned().away(p), 0, "away", p);
        }
    }

    // ---- A question, and away, leave every byte as it is ----

    private static void questions() {
        for (int p = 0; p < 12; p++) {
            dueUnchanged("sum", p);
            dueUnchanged("twin", p);
            dueUnchanged("away", p);
            for (int q = 0; q < 12; q++) {
                dueUnchanged("differ", p, q);
            }
            for (int i = 0; i < 16; i++) {
                dueUnchanged("read", p, i);
                for (int b = 0; b < 256; b++) {
                    dueUnchanged("find", p, i, b);
                }
            }
        }
    }

    private static void dueUnchanged(String name, int... args) {
        Call call = CALLS.stream().filter(c -> c.name().equals(name)).findFirst().orElseThrow();
        CompressedSwap x = patterned();
        call.go().applyAsInt(x, args);
        dueState(x, pattern(), name, args);
    }

    // ---- Terms: what is out of its range ----

    // What a call takes: p a page, i a place, b a byte, n the length of a move.
    private record Call(String name, String takes, ToIntBiFunction<CompressedSwap, int[]> go) { }

    private static final List<Call> CALLS = List.of(
        new Call("write", "pib", (x, a) -> x.write(a[0], a[1], a[2])),
        new Call("read", "pi", (x, a) -> x.read(a[0], a[1])),
        new Call("fill", "piib", (x, a) -> x.fill(a[0], a[1], a[2], a[3])),
        new Call("copy", "pp", (x, a) -> x.copy(a[0], a[1])),
        new Call("exchange", "pp", (x, a) -> x.exchange(a[0], a[1])),
        new Call("move", "piin", (x, a) -> x.move(a[0], a[1], a[2], a[3])),
        new Call("mix", "pp", (x, a) -> x.mix(a[0], a[1])),
        new Call("drop", "p", (x, a) -> x.drop(a[0])),
        new Call("sum", "p", (x, a) -> x.sum(a[0])),
        new Call("differ", "pp", (x, a) -> x.differ(a[0], a[1])),
        new Call("find", "pib", (x, a) -> x.find(a[0], a[1], a[2])),
        new Call("twin", "p", (x, a) -> x.twin(a[0])),
        new Call("away", "p", (x, a) -> x.away(a[0])));

    private static int last(char kind) {
        return switch (kind) {
            case 'p' -> 11;
            case 'i' -> 15;
            case 'b' -> 255;
            default -> 16;
        };
    }

    // The numbers next to the ranges, and all bits of an int with the numbers next to them.
    private static void outside(int last, Consumer<Integer> with) {
        for (int value = -600; value <= 600; value++) {
            outsideOnly(value, last, with);
        }
        for (int bit = 10; bit < 32; bit++) {
            for (int by = -17; by <= 17; by++) {
                outsideOnly((1 << bit) + by, last, with);
                outsideOnly(-(1 << bit) + by, last, with);
            }
        }
    }

    private static void outsideOnly(int value, int last, Consumer<Integer> with) {
        if (value < 0 || value > last) {
            with.accept(value);
        }
    }

    private static void refused() {
        for (Call call : CALLS) {
            for (int at = 0; at < call.takes().length(); at++) {
                int wrongAt = at;
                outside(last(call.takes().charAt(at)), value -> refusedCase(call, wrongAt, value));
            }
        }
    }

    private static void refusedCase(Call call, int at, int value) {
        int[] args = new int[call.takes().length()];
        Arrays.fill(args, 1);
        args[at] = value;
        CompressedSwap x = patterned();
        due(call.go().applyAsInt(x, args), BAD, call.name(), args);
        dueState(x, pattern(), call.name(), args);
    }

    public static void main(String[] args) {
        writeAndRead();
        writeBesideOthers();
        fill();
        pairs();
        copyEveryMask();
        mixEveryPairOfBytes();
        move();
        drop();
        sum();
        differ();
        searchEveryMask();
        find();
        blankAndTwinEverySet();
        away();
        questions();
        refused();
        System.out.println(wrong == 0 ? "all answers are as due" : wrong + " answers are not as due");
        if (wrong != 0) {
            System.exit(1);
        }
    }
}
