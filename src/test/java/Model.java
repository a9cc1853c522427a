import java.util.Collections;
import java.util.IdentityHashMap;
import java.util.Set;

/**
 * The document told another way, for ModelTest: a page is an entry that points to a frame, two
 * pages are shared when they point to the same frame, and a copy is four writes on a spare model.
 */
final class Model {
    private static final int PAGES = 16;
    private static final int WORDS = 4;
    private static final int FRAMES = 16;

    private static final class Entry {
        int[] frame;
        boolean readOnly;

        Entry(int[] frame, boolean readOnly) {
            this.frame = frame;
            this.readOnly = readOnly;
        }
    }

    private Entry[][] table = new Entry[2][PAGES];

    int touch(int p, int v) {
        if (wrongProcess(p) || wrongPage(v)) {
            return -1;
        }
        if (table[p][v] != null) {
            return 0;
        }
        if (inUse() == FRAMES) {
            return -2;
        }
        table[p][v] = new Entry(new int[WORDS], false);
        return 1;
    }

    int write(int p, int v, int w, int x) {
        if (wrongProcess(p) || wrongPage(v) || wrongWord(w)) {
            return -1;
        }
        if (table[p][v] != null && table[p][v].readOnly) {
            return -4;
        }
        if (touch(p, v) == -2) {
            return -2;
        }
        if (shared(v)) {
            if (inUse() == FRAMES) {
                return -2;
            }
            table[p][v].frame = table[p][v].frame.clone();
        }
        table[p][v].frame[w] = x;
        return 0;
    }

    int read(int p, int v, int w) {
        if (wrongProcess(p) || wrongPage(v) || wrongWord(w) || table[p][v] == null) {
            return 0;
        }
        return table[p][v].frame[w];
    }

    int unmap(int p, int v) {
        if (wrongProcess(p) || wrongPage(v)) {
            return -1;
        }
        if (table[p][v] == null) {
            return -3;
        }
        table[p][v] = null;
        return 0;
    }

    int protect(int p, int v, int on) {
        if (wrongProcess(p) || wrongPage(v)) {
            return -1;
        }
        if (table[p][v] == null) {
            return -3;
        }
        int before = table[p][v].readOnly ? 1 : 0;
        table[p][v].readOnly = on != 0;
        return before;
    }

    int state(int p, int v) {
        if (wrongProcess(p) || wrongPage(v)) {
            return -1;
        }
        return table[p][v] == null ? 0 : table[p][v].readOnly ? 2 : 1;
    }

    boolean shared(int v) {
        return !wrongPage(v) && table[0][v] != null && table[1][v] != null
                && table[0][v].frame == table[1][v].frame;
    }

    int split(int p) {
        if (wrongProcess(p)) {
            return -1;
        }
        Entry[] other = new Entry[PAGES];
        for (int v = 0; v < PAGES; v++) {
            if (table[p][v] != null) {
                other[v] = new Entry(table[p][v].frame, table[p][v].readOnly);
            }
        }
        table[1 - p] = other;
        return present(p);
    }

    int copy(int p, int v, int u) {
        if (wrongProcess(p) || wrongPage(v) || wrongPage(u)) {
            return -1;
        }
        Model spare = twin();
        for (int w = 0; w < WORDS; w++) {
            int code = spare.write(p, u, w, read(p, v, w));
            if (code != 0) {
                return code;
            }
        }
        table = spare.table;
        return 0;
    }

    int unmapRange(int p, int from, int to) {
        if (wrongProcess(p) || wrongPage(from) || wrongPage(to)) {
            return -1;
        }
        int count = 0;
        for (int v = from; v <= to; v++) {
            count += unmap(p, v) == 0 ? 1 : 0;
        }
        return count;
    }

    int present(int p) {
        if (wrongProcess(p)) {
            return -1;
        }
        int count = 0;
        for (Entry entry : table[p]) {
            count += entry == null ? 0 : 1;
        }
        return count;
    }

    int inUse() {
        Set<int[]> frames = Collections.newSetFromMap(new IdentityHashMap<>());
        for (Entry[] entries : table) {
            for (Entry entry : entries) {
                if (entry != null) {
                    frames.add(entry.frame);
                }
            }
        }
        return frames.size();
    }

    int digest(int p) {
        if (wrongProcess(p)) {
            return 0;
        }
        long sum = 0;
        for (int v = 0; v < PAGES; v++) {
            for (int w = 0; w < WORDS; w++) {
                sum += (long) read(p, v, w) * (4 * v + w + 1);
            }
        }
        return (int) sum;
    }

    private Model twin() {
        Model twin = new Model();
        for (int v = 0; v < PAGES; v++) {
            for (int p = 0; p < 2; p++) {
                if (table[p][v] != null) {
                    twin.table[p][v] = new Entry(table[p][v].frame.clone(), table[p][v].readOnly);
                }
            }
            if (shared(v)) {
                twin.table[1][v].frame = twin.table[0][v].frame;
            }
        }
        return twin;
    }

    private static boolean wrongProcess(int p) {
        return p != 0 && p != 1;
    }

    private static boolean wrongPage(int v) {
        return v < 0 || v >= PAGES;
    }

    private static boolean wrongWord(int w) {
        return w < 0 || w >= WORDS;
    }
}
