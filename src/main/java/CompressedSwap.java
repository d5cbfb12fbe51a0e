public final class CompressedSwap {
    public static final int BAD_ARG = -1;
    public static final int NONE = -4;

    private static final int PAGES = 12;
    private static final int PLACES = 16;
    private static final int ALL_BYTES = 192;
    private static final int GREATEST_BYTE = 255;

    // Page p has its bytes at p * PLACES and the fifteen places behind.
    private final int[] bytes = new int[ALL_BYTES];

    public CompressedSwap() {
    }

    public int write(int p, int i, int b) {
        if (!isPage(p) || !isPlace(i) || !isByte(b)) {
            return BAD_ARG;
        }
        int at = p * PLACES + i;
        int before = bytes[at];
        bytes[at] = b;
        return before;
    }

    public int read(int p, int i) {
        if (!isPage(p) || !isPlace(i)) {
            return BAD_ARG;
        }
        return bytes[p * PLACES + i];
    }

    public int fill(int p, int from, int to, int b) {
        if (!isPage(p) || !isPlace(from) || !isPlace(to) || !isByte(b)) {
            return BAD_ARG;
        }
        int count = 0;
        for (int i = from; i <= to; i++) {
            bytes[p * PLACES + i] = b;
            count++;
        }
        return count;
    }

    public int copy(int p, int q) {
        if (!isPage(p) || !isPage(q)) {
            return BAD_ARG;
        }
        int changed = 0;
        for (int i = 0; i < PLACES; i++) {
            int wanted = bytes[q * PLACES + i];
            if (bytes[p * PLACES + i] != wanted) {
                bytes[p * PLACES + i] = wanted;
                changed++;
            }
        }
        return changed;
    }

    public int exchange(int p, int q) {
        if (!isPage(p) || !isPage(q)) {
            return BAD_ARG;
        }
        for (int i = 0; i < PLACES; i++) {
            int held = bytes[p * PLACES + i];
            bytes[p * PLACES + i] = bytes[q * PLACES + i];
            bytes[q * PLACES + i] = held;
        }
        return 0;
    }

    public int move(int p, int from, int to, int n) {
        if (!isPage(p) || !isPlace(from) || !isPlace(to)) {
            return BAD_ARG;
        }
        // n is bounded before it is added, so that the sums can't wrap around.
        if (n < 0 || n > PLACES || from + n > PLACES || to + n > PLACES) {
            return BAD_ARG;
        }
        // Always upwards, also when the ranges overlap: the document wants the repeats.
        for (int i = 0; i < n; i++) {
            bytes[p * PLACES + to + i] = bytes[p * PLACES + from + i];
        }
        return 0;
    }

    public int mix(int p, int q) {
        if (!isPage(p) || !isPage(q)) {
            return BAD_ARG;
        }
        for (int i = 0; i < PLACES; i++) {
            bytes[p * PLACES + i] ^= bytes[q * PLACES + i];
        }
        return 0;
    }

    public int drop(int p) {
        if (!isPage(p)) {
            return BAD_ARG;
        }
        for (int i = 0; i < PLACES; i++) {
            bytes[p * PLACES + i] = 0;
        }
        return 0;
    }

    public int sum(int p) {
        if (!isPage(p)) {
            return BAD_ARG;
        }
        int total = 0;
        for (int i = 0; i < PLACES; i++) {
            total += (i + 1) * bytes[p * PLACES + i];
        }
        return total;
    }

    public int differ(int p, int q) {
        if (!isPage(p) || !isPage(q)) {
            return BAD_ARG;
        }
        return firstDifference(p, q);
    }

    public int find(int p, int from, int b) {
        if (!isPage(p) || !isPlace(from) || !isByte(b)) {
            return BAD_ARG;
        }
        for (int i = from; i < PLACES; i++) {
            if (bytes[p * PLACES + i] == b) {
                return i;
            }
        }
        return NONE;
    }

    public int blank() {
        int count = 0;
        for (int p = 0; p < PAGES; p++) {
            if (isBlank(p)) {
                count++;
            }
        }
        return count;
    }

    public int twin(int p) {
        if (!isPage(p)) {
            return BAD_ARG;
        }
        for (int q = 0; q < PAGES; q++) {
            if (q != p && firstDifference(p, q) == NONE) {
                return q;
            }
        }
        return NONE;
    }

    // The document leaves free how the pages are held, and no call may see what
    // away, flush and rest do. All pages are held unpacked in one place here, so
    // there is nothing to put away, to write back or to bring back.

    public int away(int p) {
        if (!isPage(p)) {
            return BAD_ARG;
        }
        return 0;
    }

    public void flush(int n) {
    }

    public void rest(int n) {
    }

    private static boolean isPage(int p) {
        return p >= 0 && p < PAGES;
    }

    private static boolean isPlace(int i) {
        return i >= 0 && i < PLACES;
    }

    private static boolean isByte(int b) {
        return b >= 0 && b <= GREATEST_BYTE;
    }

    private int firstDifference(int p, int q) {
        for (int i = 0; i < PLACES; i++) {
            if (bytes[p * PLACES + i] != bytes[q * PLACES + i]) {
                return i;
            }
        }
        return NONE;
    }

    private boolean isBlank(int p) {
        for (int i = 0; i < PLACES; i++) {
            if (bytes[p * PLACES + i] != 0) {
                return false;
            }
        }
        return true;
    }
}
