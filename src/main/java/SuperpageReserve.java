/** Pages of two processes in a memory of 16 frames, as told in DOC.md. */
public final class SuperpageReserve {
    public static final int BAD_ARG = -1;
    public static final int FULL = -2;
    public static final int ABSENT = -3;
    public static final int READ_ONLY = -4;

    private static final int PROCESSES = 2;
    private static final int PAGES = 16;
    private static final int WORDS = 4;
    private static final int FRAMES = 16;
    private static final int ALL_PAGES = PROCESSES * PAGES;
    private static final int ALL_WORDS = ALL_PAGES * WORDS;

    // The numbers that state answers, so that it can answer them as they are held.
    private static final int IS_ABSENT = 0;
    private static final int IS_WRITABLE = 1;
    private static final int IS_READ_ONLY = 2;

    private final int[] states = new int[ALL_PAGES];

    // An absent page holds only zeros, so that it reads, copies and comes back as zeros.
    // Shared pages hold equal words twice, so that ending the sharing moves no word.
    private final int[] words = new int[ALL_WORDS];

    // True only where both processes have the page present.
    private final boolean[] joined = new boolean[PAGES];

    public SuperpageReserve() {
    }

    public int touch(int p, int v) {
        if (!isPage(p, v)) {
            return BAD_ARG;
        }
        if (isPresent(p, v)) {
            return 0;
        }
        if (inUse() >= FRAMES) {
            return FULL;
        }
        states[pageIndex(p, v)] = IS_WRITABLE;
        return 1;
    }

    public int write(int p, int v, int w, int x) {
        if (!isPage(p, v) || !isWord(w)) {
            return BAD_ARG;
        }
        int code = makeOwn(p, v);
        if (code == 0) {
            words[wordIndex(p, v, w)] = x;
        }
        return code;
    }

    public int read(int p, int v, int w) {
        if (!isPage(p, v) || !isWord(w)) {
            return 0;
        }
        return words[wordIndex(p, v, w)];
    }

    public int unmap(int p, int v) {
        if (!isPage(p, v)) {
            return BAD_ARG;
        }
        if (!isPresent(p, v)) {
            return ABSENT;
        }
        makeAbsent(p, v);
        return 0;
    }

    public int protect(int p, int v, int on) {
        if (!isPage(p, v)) {
            return BAD_ARG;
        }
        if (!isPresent(p, v)) {
            return ABSENT;
        }
        int page = pageIndex(p, v);
        int before = states[page];
        states[page] = on != 0 ? IS_READ_ONLY : IS_WRITABLE;
        return before == IS_READ_ONLY ? 1 : 0;
    }

    public int state(int p, int v) {
        if (!isPage(p, v)) {
            return BAD_ARG;
        }
        return states[pageIndex(p, v)];
    }

    public boolean shared(int v) {
        return isPageNumber(v) && joined[v];
    }

    public int split(int p) {
        if (!isProcess(p)) {
            return BAD_ARG;
        }
        int count = 0;
        for (int v = 0; v < PAGES; v++) {
            makeAbsent(1 - p, v);
            if (isPresent(p, v)) {
                sharePage(p, v);
                count++;
            }
        }
        return count;
    }

    public int copy(int p, int v, int u) {
        if (!isPage(p, v) || !isPageNumber(u)) {
            return BAD_ARG;
        }
        // Only the first of the four writes can be refused: after it the page is its own.
        int code = makeOwn(p, u);
        if (code == 0) {
            copyWords(p, v, p, u);
        }
        return code;
    }

    public int unmapRange(int p, int from, int to) {
        if (!isPage(p, from) || !isPageNumber(to)) {
            return BAD_ARG;
        }
        int count = 0;
        for (int v = from; v <= to; v++) {
            if (isPresent(p, v)) {
                makeAbsent(p, v);
                count++;
            }
        }
        return count;
    }

    public int present(int p) {
        if (!isProcess(p)) {
            return BAD_ARG;
        }
        int count = 0;
        for (int v = 0; v < PAGES; v++) {
            if (isPresent(p, v)) {
                count++;
            }
        }
        return count;
    }

    public int inUse() {
        int count = 0;
        for (int page = 0; page < ALL_PAGES; page++) {
            if (states[page] != IS_ABSENT) {
                count++;
            }
        }
        for (int v = 0; v < PAGES; v++) {
            if (joined[v]) {
                count--;
            }
        }
        return count;
    }

    public int digest(int p) {
        if (!isProcess(p)) {
            return 0;
        }
        // Absent pages add nothing, since their words are zeros; i counts as 4 v + w does.
        int first = wordIndex(p, 0, 0);
        int sum = 0;
        for (int i = 0; i < PAGES * WORDS; i++) {
            sum += words[first + i] * (i + 1);
        }
        return sum;
    }

    private static boolean isProcess(int p) {
        return p >= 0 && p < PROCESSES;
    }

    private static boolean isPageNumber(int v) {
        return v >= 0 && v < PAGES;
    }

    private static boolean isPage(int p, int v) {
        return isProcess(p) && isPageNumber(v);
    }

    private static boolean isWord(int w) {
        return w >= 0 && w < WORDS;
    }

    private static int pageIndex(int p, int v) {
        return p * PAGES + v;
    }

    private static int wordIndex(int p, int v, int w) {
        return (p * PAGES + v) * WORDS + w;
    }

    private boolean isPresent(int p, int v) {
        return states[pageIndex(p, v)] != IS_ABSENT;
    }

    /** Makes the page present and not shared, as a write needs it; 0, or why it is refused. */
    private int makeOwn(int p, int v) {
        int page = pageIndex(p, v);
        if (states[page] == IS_READ_ONLY) {
            return READ_ONLY;
        }
        boolean needsFrame = joined[v] || states[page] == IS_ABSENT;
        if (needsFrame && inUse() >= FRAMES) {
            return FULL;
        }
        states[page] = IS_WRITABLE;
        joined[v] = false;
        return 0;
    }

    private void makeAbsent(int p, int v) {
        states[pageIndex(p, v)] = IS_ABSENT;
        joined[v] = false;
        int first = wordIndex(p, v, 0);
        for (int w = 0; w < WORDS; w++) {
            words[first + w] = 0;
        }
    }

    private void sharePage(int p, int v) {
        int other = 1 - p;
        copyWords(p, v, other, v);
        states[pageIndex(other, v)] = states[pageIndex(p, v)];
        joined[v] = true;
    }

    private void copyWords(int p, int v, int q, int u) {
        int source = wordIndex(p, v, 0);
        int target = wordIndex(q, u, 0);
        for (int w = 0; w < WORDS; w++) {
            words[target + w] = words[source + w];
        }
    }
}
