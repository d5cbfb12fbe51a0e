import java.util.Arrays;
import java.util.List;
import java.util.function.Consumer;
import java.util.function.ToIntBiFunction;

// One test for each sentence of the document that names a boundary case. All bounds and codes are
// written out here, not taken from the class, so that a wrong constant there shows.
// No object gets more than the 512 calls for which the document speaks.
// With a word as argument only the tests run whose name has this word.
public final class BoundaryTests {
    private static final int BAD = -1;
    private static final int NONE = -4;
    private static final int MIN = Integer.MIN_VALUE;
    private static final int MAX = Integer.MAX_VALUE;

    // 2^28 times the sixteen places of a page wraps around to 0, so these would pass as pages 0 and 1.
    private static final int[] OUTSIDE_PAGES = {
        MIN, MIN + 1, -(1 << 28), -12, -1, 12, 13, 16, 1 << 28, (1 << 28) + 1, MAX - 1, MAX
    };
    private static final int[] OUTSIDE_PLACES = {MIN, MIN + 1, -16, -1, 16, 17, 32, 191, 192, 65536, MAX - 1, MAX};
    private static final int[] OUTSIDE_BYTES = {MIN, MIN + 1, -256, -128, -1, 256, 257, 511, 512, 65536, MAX - 1, MAX};

    // What a call takes: p a page, i a place, b a byte, n the length of a move, k the keeper's number.
    private record Call(String name, String takes, ToIntBiFunction<CompressedSwap, int[]> go) {
        int on(CompressedSwap x, int... a) {
            return go.applyAsInt(x, a);
        }

        String with(int... a) {
            return name + Arrays.toString(a);
        }
    }

    private static final List<Call> CALLS = List.of(
        new Call("write", "pib", (x, a) -> x.write(a[0], a[1], a[2])),
        new Call("read", "pi", (x, a) -> x.read(a[0], a[1])),
        new Call("fill", "piib", (x, a) -> x.fill(a[0], a[1], a[2], a[3])),
        new Call("copy", "pp", (x, a) -> x.copy(a[0], a[1])),
        new Call("exchange", "pp", (x, a) -> x.exchange(a[0], a[1])),
        new Call("move", "piin", (x, a) -> x.move(a[0], a[1], a[2], a[3])),
        new Call("mix", "pp", (x, a) -> x.mix(a[0], a[1])),
        new Call("drop", "p", (x, a) -> x.drop(a[0])),
        new Call("sum", "p", (x, a) -> x.sum(a[0])),
        new Call("differ", "pp", (x, a) -> x.differ(a[0], a[1])),
        new Call("find", "pib", (x, a) -> x.find(a[0], a[1], a[2])),
        new Call("blank", "", (x, a) -> x.blank()),
        new Call("twin", "p", (x, a) -> x.twin(a[0])),
        new Call("away", "p", (x, a) -> x.away(a[0])),
        new Call("flush", "k", (x, a) -> silent(() -> x.flush(a[0]))),
        new Call("rest", "k", (x, a) -> silent(() -> x.rest(a[0]))));

    private static int silent(Runnable call) {
        call.run();
        return 0;
    }

    private static Call call(String name) {
        return CALLS.stream().filter(c -> c.name().equals(name)).findFirst().orElseThrow();
    }

    // ---- what is due ----

    private static int wrong = 0;

    private static void due(String what, int got, int want) {
        if (got != want) {
            wrong++;
            System.out.println("  " + what + " answered " + got + ", due is " + want);
        }
    }

    private static void dueNotBad(String what, int got) {
        if (got == BAD) {
            wrong++;
            System.out.println("  " + what + " answered BAD_ARG, and nothing is out of range");
        }
    }

    private static int[][] pattern() {
        int[][] pages = new int[12][16];
        for (int at = 0; at < 192; at++) {
            pages[at / 16][at % 16] = (at / 16 * 37 + at % 16 * 11 + 5) & 255;
        }
        return pages;
    }

    // All bytes set, with no two pages the same: a byte put in a wrong place shows. 192 calls.
    private static CompressedSwap patterned() {
        CompressedSwap x = new CompressedSwap();
        int[][] pages = pattern();
        for (int p = 0; p < 12; p++) {
            setPage(x, p, pages[p]);
        }
        return x;
    }

    private static void setPage(CompressedSwap x, int p, int... values) {
        for (int i = 0; i < values.length; i++) {
            x.write(p, i, values[i]);
        }
    }

    private static void dueState(String after, CompressedSwap x, int[][] want) {
        for (int p = 0; p < 12; p++) {
            for (int i = 0; i < 16; i++) {
                due("after " + after + ": read(" + p + ", " + i + ")", x.read(p, i), want[p][i]);
            }
        }
    }

    private static void dueUnchanged(Call call, int want, int... args) {
        CompressedSwap x = patterned();
        due(call.with(args), call.on(x, args), want);
        dueState(call.with(args), x, pattern());
    }

    private static void dueRefused(Call call, int... args) {
        dueUnchanged(call, BAD, args);
    }

    private static void dueRefused(String name, int... args) {
        dueRefused(call(name), args);
    }

    // ---- Terms ----

    // Three sets of arguments in their ranges for each call: at the low ends, between, and at the high ends.
    private static int[][] inRange(Call call) {
        int[][] sets = new int[3][call.takes().length()];
        for (int at = 0; at < call.takes().length(); at++) {
            char kind = call.takes().charAt(at);
            int last = kind == 'p' ? 11 : kind == 'i' ? 15 : kind == 'b' ? 255 : 1;
            sets[1][at] = (last + 1) / 2;
            sets[2][at] = last;
        }
        return sets;
    }

    // Every argument of this kind in every call, one at a time, the others staying in their ranges.
    private static void bounds(char kind, int[] outside, int... inside) {
        for (Call call : CALLS) {
            for (int at = 0; at < call.takes().length(); at++) {
                if (call.takes().charAt(at) == kind) {
                    boundsAt(call, at, outside, inside);
                }
            }
        }
    }

    private static void boundsAt(Call call, int at, int[] outside, int[] inside) {
        for (int[] args : inRange(call)) {
            for (int value : outside) {
                args[at] = value;
                dueRefused(call, args);
            }
            for (int value : inside) {
                args[at] = value;
                dueNotBad(call.with(args), call.on(patterned(), args));
            }
        }
    }

    private static void pageBounds() {
        bounds('p', OUTSIDE_PAGES, 0, 1, 10, 11);
    }

    private static void placeBounds() {
        bounds('i', OUTSIDE_PLACES, 0, 1, 14, 15);
    }

    private static void byteBounds() {
        bounds('b', OUTSIDE_BYTES, 0, 1, 127, 128, 254, 255);
    }

    // Without the test of the ranges each of these would have another answer: 0 or NONE.
    private static void testedFirst() {
        for (int out : new int[] {MIN, -1, 256, MAX}) {
            dueRefused("fill", 1, 5, 3, out);
            dueRefused("find", 1, 15, out);
        }
        for (int out : new int[] {MIN, -1}) {
            dueRefused("fill", 1, 5, out, 0);
        }
        for (int out : new int[] {16, MAX}) {
            dueRefused("fill", 1, out, 3, 0);
            dueRefused("find", 1, out, 0);
        }
        for (int out : new int[] {MIN, -1, 16, MAX}) {
            dueRefused("move", 1, out, 0, 0);
            dueRefused("move", 1, 0, out, 0);
            dueRefused("move", 1, out, out, 0);
        }
        for (int out : new int[] {MIN, -1, 12, MAX}) {
            for (String name : List.of("copy", "exchange", "mix", "differ")) {
                dueRefused(name, out, out);
            }
            dueRefused("twin", out);
            dueRefused("fill", out, 5, 3, 0);
            dueRefused("move", out, 0, 0, 0);
        }
    }

    private static int[] edges(char kind) {
        return switch (kind) {
            case 'p' -> new int[] {MIN, -1, 0, 11, 12, 1 << 28, MAX};
            case 'i' -> new int[] {MIN, -1, 0, 7, 15, 16, MAX};
            case 'b' -> new int[] {MIN, -1, 0, 255, 256, MAX};
            case 'n' -> new int[] {MIN, MIN + 1, -16, -1, 0, 1, 9, 16, 17, MAX - 15, MAX - 14, MAX};
            default -> new int[] {MIN, -1, 0, 1, 4, 5, 12, 13, MAX};
        };
    }

    // All mixes of edges: several arguments may be wrong at once.
    private static void everyMix(Call call, Consumer<int[]> with) {
        int many = 1;
        for (char kind : call.takes().toCharArray()) {
            many *= edges(kind).length;
        }
        for (int mix = 0; mix < many; mix++) {
            int[] args = new int[call.takes().length()];
            int left = mix;
            for (int at = 0; at < args.length; at++) {
                int[] values = edges(call.takes().charAt(at));
                args[at] = values[left % values.length];
                left /= values.length;
            }
            with.accept(args);
        }
    }

    private static boolean outOfRange(Call call, int[] args) {
        for (int at = 0; at < args.length; at++) {
            char kind = call.takes().charAt(at);
            int last = kind == 'p' ? 11 : kind == 'i' ? 15 : kind == 'b' ? 255 : 16;
            if (kind != 'k' && (args[at] < 0 || args[at] > last)) {
                return true;
            }
        }
        return call.name().equals("move") && Math.max(args[1], args[2]) + args[3] > 16;
    }

    private static void neverThrows() {
        for (Call call : CALLS) {
            everyMix(call, args -> {
                noThrow(call, new CompressedSwap(), args);
                noThrow(call, patterned(), args);
                noThrow(call, putAway(patterned()), args);
            });
        }
    }

    private static void noThrow(Call call, CompressedSwap x, int[] args) {
        try {
            call.on(x, args);
            call.on(x, args);
        } catch (RuntimeException | Error thrown) {
            wrong++;
            System.out.println("  " + call.with(args) + " threw " + thrown);
        }
    }

    private static CompressedSwap putAway(CompressedSwap x) {
        for (int p = 0; p < 12; p++) {
            x.away(p);
        }
        x.flush(4);
        return x;
    }

    private static void refusedChangesNothing() {
        for (Call call : CALLS) {
            everyMix(call, args -> {
                if (outOfRange(call, args)) {
                    dueRefused(call, args);
                    CompressedSwap x = putAway(patterned());
                    due(call.with(args) + " on pages put away", call.on(x, args), BAD);
                    dueState(call.with(args) + " on pages put away", x, pattern());
                } else {
                    dueNotBad(call.with(args), call.on(patterned(), args));
                }
            });
        }
    }

    // A question changes nothing either, also when the answer is NONE.
    private static void questionsChangeNothing() {
        dueUnchanged(call("read"), 5, 0, 0);
        dueUnchanged(call("sum"), 15640, 0);
        dueUnchanged(call("differ"), 0, 0, 11);
        dueUnchanged(call("differ"), NONE, 4, 4);
        dueUnchanged(call("find"), 0, 0, 0, 5);
        dueUnchanged(call("find"), NONE, 0, 15, 5);
        dueUnchanged(call("blank"), 0);
        dueUnchanged(call("twin"), NONE, 0);
        CompressedSwap empty = new CompressedSwap();
        due("blank() of zeros", empty.blank(), 12);
        due("twin(0) of zeros", empty.twin(0), 1);
        dueState("blank() and twin(0) of zeros", empty, new int[12][16]);
    }

    // The same call on two objects, of which one had the keeper at work before: answers and bytes are the same.
    private static void keeperUnseen() {
        List<Consumer<CompressedSwap>> works = List.of(
            x -> x.away(0), x -> x.away(11), x -> x.flush(1), x -> x.flush(MAX), x -> x.rest(1), x -> x.rest(MAX),
            x -> putAway(x), x -> putAway(x).flush(4), x -> putAway(x).rest(1), x -> putAway(x).rest(12),
            x -> putAway(putAway(x)), x -> putAway(x).away(12));
        for (Consumer<CompressedSwap> work : works) {
            for (Call call : CALLS) {
                everyMix(call, args -> sameAnswer(call, args, work));
            }
        }
    }

    private static void sameAnswer(Call call, int[] args, Consumer<CompressedSwap> work) {
        CompressedSwap plain = patterned();
        CompressedSwap worked = patterned();
        work.accept(worked);
        due("with the keeper at work: " + call.with(args), call.on(worked, args), call.on(plain, args));
        work.accept(worked);
        for (int p = 0; p < 12; p++) {
            for (int i = 0; i < 16; i++) {
                int want = plain.read(p, i);
                due("with the keeper at work, after " + call.with(args) + ": read", worked.read(p, i), want);
            }
        }
    }

    private static void constants() {
        due("BAD_ARG", CompressedSwap.BAD_ARG, -1);
        due("NONE", CompressedSwap.NONE, -4);
    }

    // ---- What it is: "An object is used for at most 512 calls" ----

    private static void lastCallOf512() {
        CompressedSwap x = new CompressedSwap();
        for (int made = 0; made < 512; made++) {
            due("call " + (made + 1) + ", a write", x.write(11, 15, (made + 1) % 256), made % 256);
        }
        for (Call last : CALLS) {
            for (int[] args : inRange(last)) {
                for (Call before : CALLS) {
                    lastCallAfter(before, last, args);
                }
            }
        }
    }

    // 192 calls set the pattern, 319 refused or keeper's calls or questions leave it, and the 512th is due.
    private static void lastCallAfter(Call before, Call last, int[] args) {
        CompressedSwap used = patterned();
        int[] idle = new int[before.takes().length()];
        boolean asks = List.of("read", "sum", "differ", "find", "twin", "away", "flush", "rest").contains(before.name());
        Arrays.fill(idle, asks ? 1 : MIN);
        for (int made = 192; made < 511; made++) {
            before.on(used, idle);
        }
        due("call 512 after " + before.name() + ": " + last.with(args),
            last.on(used, args), last.on(patterned(), args));
    }

    private static void stateAtCall512() {
        for (int at = 0; at < 192; at++) {
            CompressedSwap x = patterned();
            for (int made = 192; made < 510; made++) {
                x.exchange(made % 12, made % 12);
            }
            x.write(at / 16, at % 16, 255);
            due("call 512: read(" + at / 16 + ", " + at % 16 + ")", x.read(at / 16, at % 16), 255);
        }
    }

    // ---- Promises 1 to 3 ----

    private static void newObject() {
        CompressedSwap x = new CompressedSwap();
        dueState("new", x, new int[12][16]);
        due("blank()", x.blank(), 12);
        CompressedSwap used = patterned();
        dueState("new, beside a used object", new CompressedSwap(), new int[12][16]);
        dueState("new, of the used object", used, pattern());
    }

    // Each byte alone: the last place of a page and the first of the next are not mistaken for each other.
    private static void writeEveryByte() {
        for (int at = 0; at < 192; at++) {
            CompressedSwap x = patterned();
            int[][] want = pattern();
            int before = want[at / 16][at % 16];
            due("write(" + at / 16 + ", " + at % 16 + ", 255)", x.write(at / 16, at % 16, 255), before);
            due("write(" + at / 16 + ", " + at % 16 + ", 0)", x.write(at / 16, at % 16, 0), 255);
            want[at / 16][at % 16] = 0;
            dueState("write(" + at / 16 + ", " + at % 16 + ", 0)", x, want);
        }
    }

    private static void readEveryValue() {
        for (int b = 0; b < 256; b++) {
            CompressedSwap x = new CompressedSwap();
            for (int at : new int[] {0, 15, 16, 176, 191}) {
                x.write(at / 16, at % 16, b);
                due("read(" + at / 16 + ", " + at % 16 + ")", x.read(at / 16, at % 16), b);
            }
        }
    }

    // ---- Promise 4 ----

    private static void fillCase(int p, int from, int to, int b, int count) {
        String name = "fill(" + p + ", " + from + ", " + to + ", " + b + ")";
        CompressedSwap x = patterned();
        int[][] want = pattern();
        for (int i = from; i < from + count; i++) {
            want[p][i] = b;
        }
        due(name, x.fill(p, from, to, b), count);
        dueState(name, x, want);
    }

    private static void fillBothIncluded() {
        for (int p : new int[] {0, 5, 11}) {
            for (int from = 0; from < 16; from++) {
                for (int to = from; to < 16; to++) {
                    fillCase(p, from, to, 255, to - from + 1);
                    fillCase(p, from, to, 0, to - from + 1);
                }
            }
        }
    }

    private static void fillNone() {
        for (int p : new int[] {0, 5, 11}) {
            for (int from = 1; from < 16; from++) {
                for (int to = 0; to < from; to++) {
                    fillCase(p, from, to, 255, 0);
                }
            }
        }
    }

    // "Answers how many" become b: a byte that was b already is one of them.
    private static void fillCountsAll() {
        CompressedSwap x = new CompressedSwap();
        due("fill(0, 0, 15, 0) of zeros", x.fill(0, 0, 15, 0), 16);
        due("fill(0, 3, 12, 9)", x.fill(0, 3, 12, 9), 10);
        due("fill(0, 3, 12, 9) again", x.fill(0, 3, 12, 9), 10);
        due("fill(0, 12, 13, 9), one of two is 9", x.fill(0, 12, 13, 9), 2);
    }

    // ---- Promises 5 and 6 ----

    private static void copyCountsChanged() {
        for (int changed = 0; changed <= 16; changed++) {
            CompressedSwap x = patterned();
            int[][] want = pattern();
            x.copy(0, 11);
            for (int i = 0; i < changed; i++) {
                x.write(0, 15 - i, want[11][15 - i] ^ 128);
            }
            due("copy(0, 11), " + changed + " bytes differ", x.copy(0, 11), changed);
            due("copy(0, 11) again", x.copy(0, 11), 0);
            want[0] = want[11];
            dueState("copy(0, 11)", x, want);
        }
    }

    private static void copyOntoItself() {
        for (int p = 0; p < 12; p++) {
            CompressedSwap x = patterned();
            due("copy(" + p + ", " + p + ")", x.copy(p, p), 0);
            dueState("copy(" + p + ", " + p + ")", x, pattern());
        }
    }

    private static void copyKeepsTheSource() {
        CompressedSwap x = patterned();
        int[][] want = pattern();
        due("copy(11, 0)", x.copy(11, 0), 16);
        due("write(11, 15, 1)", x.write(11, 15, 1), want[0][15]);
        due("write(0, 0, 2)", x.write(0, 0, 2), want[0][0]);
        want[11] = want[0].clone();
        want[11][15] = 1;
        want[0][0] = 2;
        dueState("copy(11, 0) and writes to both", x, want);
    }

    private static void exchangeEveryPair() {
        for (int p = 0; p < 12; p++) {
            for (int q = 0; q < 12; q++) {
                CompressedSwap x = patterned();
                int[][] want = pattern();
                due("exchange(" + p + ", " + q + ")", x.exchange(p, q), 0);
                int[] held = want[p];
                want[p] = want[q];
                want[q] = held;
                dueState("exchange(" + p + ", " + q + ")", x, want);
            }
        }
    }

    // ---- Promise 7 ----

    private static void moveCase(int p, int from, int to, int n) {
        String name = "move(" + p + ", " + from + ", " + to + ", " + n + ")";
        CompressedSwap x = patterned();
        int[][] want = pattern();
        for (int i = 0; i < n; i++) {
            want[p][to + i] = want[p][from + i];
        }
        due(name, x.move(p, from, to, n), 0);
        dueState(name, x, want);
    }

    private static void moveLength() {
        for (int n : new int[] {MIN, MIN + 1, MIN + 16, -17, -16, -1, 17, 18, 65536, MAX - 1, MAX}) {
            dueRefused("move", 0, 0, 0, n);
            dueRefused("move", 11, 15, 15, n);
            dueRefused("move", 11, 0, 15, n);
            dueRefused("move", 11, 15, 0, n);
        }
        moveCase(0, 0, 0, 16);
        moveCase(11, 0, 0, 16);
    }

    private static void moveOfNothing() {
        for (int from = 0; from < 16; from++) {
            for (int to = 0; to < 16; to++) {
                moveCase(11, from, to, 0);
            }
        }
    }

    // from + n is 16 at most; to is 0, so that only from + n can be too great.
    private static void moveFromEnd() {
        for (int from = 1; from < 16; from++) {
            moveCase(11, from, 0, 15 - from);
            moveCase(11, from, 0, 16 - from);
            dueRefused("move", 11, from, 0, 17 - from);
            dueRefused("move", 0, from, 0, 16);
        }
    }

    private static void moveToEnd() {
        for (int to = 1; to < 16; to++) {
            moveCase(11, 0, to, 15 - to);
            moveCase(11, 0, to, 16 - to);
            dueRefused("move", 11, 0, to, 17 - to);
            dueRefused("move", 0, 0, to, 16);
        }
    }

    // from + n or to + n would be below 0 if it were counted in an int before n is looked at.
    private static void moveSumWrapsAround() {
        for (int place = 1; place < 16; place++) {
            dueRefused("move", 1, place, place, MAX);
            dueRefused("move", 1, place, place, MAX - place + 1);
            dueRefused("move", 1, place, 0, MAX - place + 1);
            dueRefused("move", 1, 0, place, MAX - place + 1);
            dueRefused("move", 1, place, place, -place);
            dueRefused("move", 1, place, place, MIN + place);
        }
    }

    private static void moveOverlap() {
        CompressedSwap x = new CompressedSwap();
        setPage(x, 11, 1, 2, 3, 4, 5, 6, 7, 8, 9, 10, 11, 12, 13, 14, 15, 16);
        due("move(11, 0, 2, 14)", x.move(11, 0, 2, 14), 0);
        for (int i = 0; i < 16; i++) {
            due("two bytes repeat: read(11, " + i + ")", x.read(11, i), i % 2 + 1);
        }
        for (int from = 0; from < 16; from++) {
            for (int to = 0; to < 16; to++) {
                for (int n = 0; n <= 16 - Math.max(from, to); n++) {
                    moveCase(5, from, to, n);
                }
            }
        }
    }

    // ---- Promises 8 to 10 ----

    private static void mixWithItself() {
        for (int p = 0; p < 12; p++) {
            CompressedSwap x = patterned();
            int[][] want = pattern();
            want[p] = new int[16];
            due("mix(" + p + ", " + p + ")", x.mix(p, p), 0);
            dueState("mix(" + p + ", " + p + ")", x, want);
        }
    }

    // The answers stay within 0 to 255, and only page p changes.
    private static void mixEdges() {
        CompressedSwap x = patterned();
        int[][] want = pattern();
        setPage(x, 0, 0, 0, 255, 255, 128, 127, 1, 254);
        setPage(x, 11, 0, 255, 0, 255, 255, 128, 1, 1);
        due("mix(0, 11)", x.mix(0, 11), 0);
        for (int i = 8; i < 16; i++) {
            want[0][i] ^= want[11][i];
        }
        System.arraycopy(new int[] {0, 255, 255, 0, 127, 255, 0, 255}, 0, want[0], 0, 8);
        System.arraycopy(new int[] {0, 255, 0, 255, 255, 128, 1, 1}, 0, want[11], 0, 8);
        dueState("mix(0, 11)", x, want);
    }

    private static void dropFullAndEmpty() {
        for (int p = 0; p < 12; p++) {
            CompressedSwap x = patterned();
            int[][] want = pattern();
            want[p] = new int[16];
            x.fill(p, 0, 15, 255);
            due("drop(" + p + ") of a full page", x.drop(p), 0);
            due("drop(" + p + ") of an empty page", x.drop(p), 0);
            dueState("drop(" + p + ")", x, want);
        }
    }

    private static void sumLeastAndGreatest() {
        for (int p = 0; p < 12; p++) {
            CompressedSwap x = new CompressedSwap();
            due("sum(" + p + "), the least", x.sum(p), 0);
            x.fill(p, 0, 15, 255);
            due("sum(" + p + "), the greatest", x.sum(p), 34680);
            x.write(p, 0, 254);
            due("sum(" + p + "), one less at place 0", x.sum(p), 34679);
            x.write(p, 15, 254);
            due("sum(" + p + "), one less at place 15 too", x.sum(p), 34663);
            x.drop(p);
            for (int q = 0; q < 12; q++) {
                x.fill(q, 0, 15, q == p ? 0 : 255);
            }
            due("sum(" + p + ") of zeros among full pages", x.sum(p), 0);
        }
    }

    private static void sumEveryPlace() {
        for (int i = 0; i < 16; i++) {
            CompressedSwap x = new CompressedSwap();
            x.write(11, i, 1);
            due("sum(11) with 1 at place " + i, x.sum(11), i + 1);
            x.write(11, i, 255);
            due("sum(11) with 255 at place " + i, x.sum(11), 255 * (i + 1));
        }
    }

    // ---- Promises 11 and 12 ----

    private static void differNone() {
        for (int p = 0; p < 12; p++) {
            for (int q = 0; q < 12; q++) {
                CompressedSwap x = patterned();
                x.copy(q, p);
                due("differ(" + p + ", " + q + ") of the same bytes", x.differ(p, q), NONE);
                due("differ(" + p + ", " + q + ") of zeros", new CompressedSwap().differ(p, q), NONE);
            }
        }
    }

    private static void differLeastPlace() {
        for (int least = 0; least < 16; least++) {
            CompressedSwap x = patterned();
            x.copy(0, 11);
            x.write(0, least, x.read(11, least) ^ 1);
            due("differ(0, 11), one place", x.differ(0, 11), least);
            due("differ(11, 0), one place", x.differ(11, 0), least);
            x.write(0, 15, x.read(11, 15) ^ 128);
            due("differ(0, 11), and place 15", x.differ(0, 11), least);
            due("differ(11, 0), and place 15", x.differ(11, 0), least);
        }
    }

    private static void findAtOrBehind() {
        for (int place = 0; place < 16; place++) {
            for (int b : new int[] {0, 1, 128, 255}) {
                CompressedSwap x = new CompressedSwap();
                x.fill(11, 0, 15, 7);
                x.write(11, place, b);
                for (int from = 0; from < 16; from++) {
                    int want = from <= place ? place : NONE;
                    due("find(11, " + from + ", " + b + "), at place " + place, x.find(11, from, b), want);
                }
            }
        }
    }

    private static void findLeastPlace() {
        CompressedSwap x = new CompressedSwap();
        x.fill(0, 0, 15, 255);
        for (int from = 0; from < 16; from++) {
            due("find(0, " + from + ", 255) of a full page", x.find(0, from, 255), from);
            due("find(11, " + from + ", 0) of an empty page", x.find(11, from, 0), from);
        }
    }

    private static void findNone() {
        for (int p = 0; p < 12; p++) {
            CompressedSwap x = new CompressedSwap();
            for (int q = 0; q < 12; q++) {
                x.fill(q, 0, 15, q == p ? 0 : 9);
            }
            for (int from = 0; from < 16; from++) {
                due("find(" + p + ", " + from + ", 9), only other pages have it", x.find(p, from, 9), NONE);
                due("find(" + p + ", " + from + ", 255), no page has it", x.find(p, from, 255), NONE);
            }
        }
    }

    // ---- Promises 13 and 14 ----

    private static void blankFromAllToNone() {
        CompressedSwap x = new CompressedSwap();
        for (int p = 0; p < 12; p++) {
            due("blank() with " + p + " pages set", x.blank(), 12 - p);
            x.fill(p, 0, 15, 255);
        }
        due("blank() with all pages set", x.blank(), 0);
        for (int p = 0; p < 12; p++) {
            x.drop(p);
            due("blank() with " + (p + 1) + " pages dropped", x.blank(), p + 1);
        }
    }

    private static void blankSeesEveryByte() {
        for (int at = 0; at < 192; at++) {
            CompressedSwap x = new CompressedSwap();
            x.write(at / 16, at % 16, 1);
            due("blank() with byte " + at % 16 + " of page " + at / 16 + " set", x.blank(), 11);
            x.write(at / 16, at % 16, 0);
            due("blank() with it 0 again", x.blank(), 12);
        }
    }

    private static void twinNone() {
        CompressedSwap x = patterned();
        for (int p = 0; p < 12; p++) {
            due("twin(" + p + "), all pages differ", x.twin(p), NONE);
        }
        for (int at = 0; at < 192; at++) {
            CompressedSwap y = new CompressedSwap();
            y.write(at / 16, at % 16, 1);
            due("twin(" + at / 16 + "), byte " + at % 16 + " sets it apart", y.twin(at / 16), NONE);
        }
    }

    private static void twinLeastOther() {
        CompressedSwap empty = new CompressedSwap();
        for (int p = 0; p < 12; p++) {
            due("twin(" + p + ") of zeros", empty.twin(p), p == 0 ? 1 : 0);
            for (int q = 0; q < 12; q++) {
                if (p != q) {
                    twinPair(p, q);
                }
            }
        }
    }

    private static void twinPair(int p, int q) {
        CompressedSwap x = patterned();
        x.copy(p, q);
        due("twin(" + p + ") with " + q, x.twin(p), q);
        due("twin(" + q + ") with " + p, x.twin(q), p);
        int other = p == 11 || q == 11 ? p == 10 || q == 10 ? 9 : 10 : 11;
        x.copy(other, q);
        due("twin(" + other + ") with " + p + " and " + q, x.twin(other), Math.min(p, q));
        due("twin(" + p + ") with " + q + " and " + other, x.twin(p), Math.min(q, other));
    }

    // ---- Promises 15 to 17 ----

    private static void awayAnswersZero() {
        CompressedSwap x = patterned();
        for (int p = 0; p < 12; p++) {
            due("away(" + p + ")", x.away(p), 0);
            due("away(" + p + ") of a page put away", x.away(p), 0);
        }
        dueState("away of all pages", x, pattern());
        CompressedSwap empty = new CompressedSwap();
        due("away(0) of an empty page", empty.away(0), 0);
        due("away(11) of an empty page", empty.away(11), 0);
        dueState("away of empty pages", empty, new int[12][16]);
    }

    // No call can see how many frames or pages the keeper moves, so no test can count them. What can be seen
    // is that each number is taken, whatever is put away, and that all bytes are there afterwards.
    private static void keeperTakes(Call keeper, int... numbers) {
        for (int n : numbers) {
            for (int putAway = 0; putAway <= 12; putAway++) {
                CompressedSwap x = patterned();
                for (int p = 0; p < putAway; p++) {
                    x.away(p);
                }
                keeper.on(x, n);
                keeper.on(x, n);
                dueState(keeper.with(n) + " with " + putAway + " pages put away", x, pattern());
            }
            CompressedSwap empty = new CompressedSwap();
            keeper.on(empty, n);
            due("blank() after " + keeper.with(n), empty.blank(), 12);
        }
    }

    private static void flushNone() {
        keeperTakes(call("flush"), MIN, MIN + 1, -4, -1, 0);
    }

    private static void flushAtMostFour() {
        keeperTakes(call("flush"), 1, 2, 3, 4, 5, 6, 12, 65536, MAX - 1, MAX);
    }

    private static void restNone() {
        keeperTakes(call("rest"), MIN, MIN + 1, -12, -1, 0);
    }

    private static void restAtMostTwelve() {
        keeperTakes(call("rest"), 1, 2, 4, 11, 12, 13, 14, 65536, MAX - 1, MAX);
    }

    // ---- running ----

    private static String only = "";
    private static int failed = 0;

    private static void test(String name, Runnable body) {
        if (!name.contains(only)) {
            return;
        }
        wrong = 0;
        try {
            body.run();
        } catch (RuntimeException | Error thrown) {
            wrong++;
            System.out.println("  thrown: " + thrown);
        }
        if (wrong != 0) {
            failed++;
            System.out.println("broken: " + name);
        }
    }

    private static void terms() {
        test("Terms, pageBounds: a page not 0 to 11 answers BAD_ARG", BoundaryTests::pageBounds);
        test("Terms, placeBounds: a place not 0 to 15 answers BAD_ARG", BoundaryTests::placeBounds);
        test("Terms, byteBounds: a byte not 0 to 255 answers BAD_ARG", BoundaryTests::byteBounds);
        test("Terms, testedFirst: and this is tested first", BoundaryTests::testedFirst);
        test("Terms, neverThrows: no call ever throws", BoundaryTests::neverThrows);
        test("Terms, refused: a refused call changes nothing", BoundaryTests::refusedChangesNothing);
        test("Terms, questions: no state change is described", BoundaryTests::questionsChangeNothing);
        test("Terms, keeperUnseen: rest, away and flush can't be seen", BoundaryTests::keeperUnseen);
        test("Terms, constants: -1 and -4", BoundaryTests::constants);
        test("What it is, lastCall: 512 calls", BoundaryTests::lastCallOf512);
        test("What it is, stateAtLastCall: 512 calls", BoundaryTests::stateAtCall512);
    }

    private static void promises1To7() {
        test("1, newObject: all bytes are 0", BoundaryTests::newObject);
        test("2, writeEveryByte: byte i of page p, and no other", BoundaryTests::writeEveryByte);
        test("3, readEveryValue: 0 to 255", BoundaryTests::readEveryValue);
        test("4, fillBothIncluded: both included", BoundaryTests::fillBothIncluded);
        test("4, fillNone: none if from > to", BoundaryTests::fillNone);
        test("4, fillCountsAll: answers how many", BoundaryTests::fillCountsAll);
        test("5, copyCountsChanged: from none to all sixteen", BoundaryTests::copyCountsChanged);
        test("5, copyOntoItself: p = q", BoundaryTests::copyOntoItself);
        test("5, copyKeepsTheSource: page q stays", BoundaryTests::copyKeepsTheSource);
        test("6, exchangeEveryPair: p = q too", BoundaryTests::exchangeEveryPair);
        test("7, moveLength: n not 0 to 16", BoundaryTests::moveLength);
        test("7, moveOfNothing: n = 0", BoundaryTests::moveOfNothing);
        test("7, moveFromEnd: from + n greater than 16", BoundaryTests::moveFromEnd);
        test("7, moveToEnd: to + n greater than 16", BoundaryTests::moveToEnd);
        test("7, moveSumWrapsAround: from + n and to + n past the greatest int", BoundaryTests::moveSumWrapsAround);
        test("7, moveOverlap: an overlap may repeat bytes", BoundaryTests::moveOverlap);
    }

    private static void promises8To17() {
        test("8, mixWithItself: p = q", BoundaryTests::mixWithItself);
        test("8, mixEdges: bytes 0 and 255", BoundaryTests::mixEdges);
        test("9, dropFullAndEmpty: all bytes become 0", BoundaryTests::dropFullAndEmpty);
        test("10, sumLeastAndGreatest: 0 and 34680", BoundaryTests::sumLeastAndGreatest);
        test("10, sumEveryPlace: (i + 1) times the byte", BoundaryTests::sumEveryPlace);
        test("11, differNone: NONE if their bytes are all the same", BoundaryTests::differNone);
        test("11, differLeastPlace: places 0 to 15", BoundaryTests::differLeastPlace);
        test("12, findAtOrBehind: at or behind place from", BoundaryTests::findAtOrBehind);
        test("12, findLeastPlace: the least", BoundaryTests::findLeastPlace);
        test("12, findNone: NONE if there is none", BoundaryTests::findNone);
        test("13, blankFromAllToNone: 12 to 0", BoundaryTests::blankFromAllToNone);
        test("13, blankSeesEveryByte: all 0", BoundaryTests::blankSeesEveryByte);
        test("14, twinNone: NONE if there is none", BoundaryTests::twinNone);
        test("14, twinLeastOther: the least page other than p", BoundaryTests::twinLeastOther);
        test("15, awayAnswersZero: answers 0", BoundaryTests::awayAnswersZero);
        test("16, flushNone: none if n < 1", BoundaryTests::flushNone);
        test("16, flushAtMostFour: at most 4", BoundaryTests::flushAtMostFour);
        test("17, restNone: none if n < 1", BoundaryTests::restNone);
        test("17, restAtMostTwelve: at most 12", BoundaryTests::restAtMostTwelve);
    }

    public static void main(String[] args) {
        only = args.length == 0 ? "" : args[0];
        terms();
        promises1To7();
        promises8To17();
        System.out.println(failed == 0 ? "all sentences hold" : failed + " sentences are broken");
        if (failed != 0) {
            System.exit(1);
        }
    }
}
