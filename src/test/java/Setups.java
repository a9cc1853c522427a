import java.util.LinkedHashMap;
import java.util.Map;
import java.util.function.Consumer;

/** Objects that the tests begin with, and arguments out of range. */
final class Setups {
    // Beside the nearest ones: numbers that, times 16 or times 64, wrap around to an index in range.
    static final int[] WRONG_PROCESSES = {-1, 2, 1 << 26, 1 << 28, (1 << 28) + 1, Integer.MIN_VALUE, Integer.MAX_VALUE};
    // Beside the nearest ones: numbers that point to a page of the other process, or wrap around.
    static final int[] WRONG_PAGES = {-1, 16, -16, 17, 31, 1 << 30, Integer.MIN_VALUE, Integer.MAX_VALUE};
    // Beside the nearest ones: numbers that point to a word of another page.
    static final int[] WRONG_WORDS = {-1, 4, -4, 5, Integer.MIN_VALUE, Integer.MAX_VALUE};

    private Setups() {
    }

    static SuperpageReserve made(Consumer<SuperpageReserve> setup) {
        SuperpageReserve x = new SuperpageReserve();
        setup.accept(x);
        return x;
    }

    /** Objects that differ in what is present, shared and read-only, and in whether a frame is free. */
    static Map<String, Consumer<SuperpageReserve>> all() {
        Map<String, Consumer<SuperpageReserve>> all = new LinkedHashMap<>();
        all.put("nothing present", x -> { });
        all.put("full, half for each process", Setups::fill);
        all.put("full, all shared", Setups::fillSharing);
        all.put("full, process 0 has all", x -> fillOne(x, 0));
        all.put("full, process 1 has all", x -> fillOne(x, 1));
        all.put("shared, one read-only", Setups::shareReadOnly);
        all.put("full, of every kind", Setups::fillMixed);
        all.put("one frame free, of every kind", Setups::mixed);
        return all;
    }

    /** Pages 0 to 7 of both processes in 16 frames, every word another number. */
    static void fill(SuperpageReserve x) {
        for (int i = 0; i < 64; i++) {
            x.write(i % 2, i / 8, i / 2 % 4, 200 + i);
        }
    }

    /** All 16 pages of both processes, every one shared, in 16 frames. */
    static void fillSharing(SuperpageReserve x) {
        for (int v = 0; v < 16; v++) {
            x.write(0, v, 0, 100 + v);
        }
        x.split(0);
    }

    /** All 16 pages of process p, none of the other, every word another number. */
    static void fillOne(SuperpageReserve x, int p) {
        for (int i = 0; i < 64; i++) {
            x.write(p, i / 4, i % 4, 300 + i);
        }
    }

    /** Shared pages 2 (read-only on both sides) and 3 (writable on both sides). */
    static void shareReadOnly(SuperpageReserve x) {
        for (int w = 0; w < 4; w++) {
            x.write(0, 2, w, 20 + w);
            x.write(0, 3, w, 30 + w);
        }
        x.protect(0, 2, 1);
        x.split(0);
    }

    /**
     * 15 frames in use. Page 0: both have it, not shared. Pages 1 to 7: shared; page 1 is read-only
     * on both sides, page 5 only in process 0, page 6 only in process 1. Pages 8 to 10: process 0
     * alone; 9 is read-only. Pages 11 and 15: absent. Pages 12 to 14: process 1 alone; 13 is read-only.
     */
    static void mixed(SuperpageReserve x) {
        for (int v = 0; v < 8; v++) {
            x.write(0, v, v % 4, 400 + v);
        }
        x.protect(0, 1, 1);
        x.split(0);
        x.write(1, 0, 1, 500);
        x.protect(0, 5, 1);
        x.protect(1, 6, 1);
        for (int i = 0; i < 3; i++) {
            x.write(0, 8 + i, i, 600 + i);
            x.write(1, 12 + i, i, 700 + i);
        }
        x.protect(0, 9, 1);
        x.protect(1, 13, 1);
    }

    /** As mixed, with page 11 of process 0 in the last frame. */
    static void fillMixed(SuperpageReserve x) {
        mixed(x);
        x.write(0, 11, 3, 800);
    }

    /** Pages 0 to count - 1 of process p. */
    static void touchFirst(SuperpageReserve x, int p, int count) {
        for (int v = 0; v < count; v++) {
            x.touch(p, v);
        }
    }

    /** All pages but one, every one shared, with words 1 to 4 each: one frame is free. */
    static void shareAllBut(SuperpageReserve x, int left) {
        for (int v = 0; v < 16; v++) {
            for (int w = 0; w < 4 && v != left; w++) {
                x.write(0, v, w, w + 1);
            }
        }
        x.split(0);
    }
}
