import java.util.Collections;

/** One or more methods for each promise of the document: ordinary inputs, the edges it names, wrong inputs. */
public final class PromisesTest {
    private static final int BAD_ARG = -1;
    private static final int FULL = -2;
    private static final int ABSENT = -3;
    private static final int READ_ONLY = -4;

    public static void main(String[] args) {
        promise1NewObject();
        promise2Touch();
        promise3Write();
        promise3WriteToSharedPage();
        promise3WriteRefused();
        promise4Read();
        promise5Unmap();
        promise6Protect();
        promise7State();
        promise8Shared();
        promise9Split();
        promise9SplitAgain();
        promise10Copy();
        promise10CopyOntoSharedPage();
        promise10CopyRefused();
        promise11UnmapRange();
        promise12Present();
        promise13InUse();
        promise14Digest();
        Check.end();
    }

    private static void promise1NewObject() {
        Check.due("everything seen of a new object", Check.seen(new SuperpageReserve()), Collections.nCopies(181, 0));
        SuperpageReserve used = new SuperpageReserve();
        used.write(1, 3, 2, 5);
        Check.due("a second object's state(1, 3)", new SuperpageReserve().state(1, 3), 0);
    }

    private static void promise2Touch() {
        SuperpageReserve x = new SuperpageReserve();
        Check.due("touch of an absent page", x.touch(1, 15), 1);
        Check.due("state after touch", x.state(1, 15), 1);
        Check.due("the other process's page after touch", x.state(0, 15), 0);
        Check.due("touch of a present page", x.touch(1, 15), 0);
        Check.due("touch of the same number in the other process", x.touch(0, 15), 1);
        Check.due("shared after two touches", x.shared(15), false);

        x.write(1, 15, 3, 8);
        x.protect(1, 15, 1);
        Check.due("touch of a read-only page", x.touch(1, 15), 0);
        Check.due("its word after touch", x.read(1, 15, 3), 8);
        Check.due("its state after touch", x.state(1, 15), 2);

        x.unmap(1, 15);
        Check.due("touch after unmap", x.touch(1, 15), 1);
        Check.due("the word after unmap and touch", x.read(1, 15, 3), 0);
        Check.due("the state after unmap and touch", x.state(1, 15), 1);

        SuperpageReserve full = new SuperpageReserve();
        Setups.fill(full);
        Check.due("touch of a present page when full", full.touch(0, 7), 0);
        x = new SuperpageReserve();
        Setups.fillSharing(x);
        Check.due("touch of a shared page when full", x.touch(1, 0), 0);
        Check.due("whether touch leaves it shared", x.shared(0), true);

        Check.unchanged("touch when full", Setups::fill, y -> y.touch(0, 8), FULL);
        Check.unchanged("touch in process 1 when full", Setups::fill, y -> y.touch(1, 15), FULL);
        for (int p : Setups.WRONG_PROCESSES) {
            Check.unchanged("touch of process " + p, Setups::fill, y -> y.touch(p, 0), BAD_ARG);
        }
        for (int v : Setups.WRONG_PAGES) {
            Check.unchanged("touch of page " + v, Setups::fill, y -> y.touch(0, v), BAD_ARG);
            Check.unchanged("touch of page " + v + " of process 1", Setups::fill, y -> y.touch(1, v), BAD_ARG);
        }
    }

    private static void promise3Write() {
        SuperpageReserve x = new SuperpageReserve();
        Check.due("write to an absent page", x.write(0, 4, 1, -7), 0);
        Check.due("state after write", x.state(0, 4), 1);
        Check.due("the word written", x.read(0, 4, 1), -7);
        Check.due("word 0 beside it", x.read(0, 4, 0), 0);
        Check.due("word 2 beside it", x.read(0, 4, 2), 0);
        Check.due("the other process's page", x.state(1, 4), 0);
        Check.due("write to a present page", x.write(0, 4, 1, Integer.MIN_VALUE), 0);
        Check.due("the word written again", x.read(0, 4, 1), Integer.MIN_VALUE);
        Check.due("inUse after both", x.inUse(), 1);
        x.protect(0, 4, 1);
        x.protect(0, 4, 0);
        Check.due("write after the page is writable again", x.write(0, 4, 1, 3), 0);

        SuperpageReserve full = new SuperpageReserve();
        Setups.fill(full);
        Check.due("write to an own page when full", full.write(1, 7, 3, 99), 0);
        Check.due("the word written when full", full.read(1, 7, 3), 99);
    }

    private static void promise3WriteToSharedPage() {
        for (int p = 0; p < 2; p++) {
            SuperpageReserve x = new SuperpageReserve();
            x.write(0, 6, 0, 1);
            x.write(0, 6, 3, 4);
            x.write(0, 7, 0, 5);
            x.split(0);
            Check.due("write to a shared page", x.write(p, 6, 0, 2), 0);
            Check.due("shared after write", x.shared(6), false);
            Check.due("shared of the page beside it", x.shared(7), true);
            Check.due("the writer's word", x.read(p, 6, 0), 2);
            Check.due("the writer's other word", x.read(p, 6, 3), 4);
            Check.due("the other's word", x.read(1 - p, 6, 0), 1);
            Check.due("the other's other word", x.read(1 - p, 6, 3), 4);
            Check.due("inUse after the sharing ended", x.inUse(), 3);
            Check.due("the other's write after it", x.write(1 - p, 6, 3, 9), 0);
            Check.due("the first writer's word then", x.read(p, 6, 3), 4);
        }
        SuperpageReserve same = new SuperpageReserve();
        same.write(0, 0, 0, 5);
        same.split(0);
        same.write(1, 0, 0, 5);
        Check.due("shared after a write of the word it had", same.shared(0), false);

        // The fifteenth page leaves just the one frame that the end of a sharing needs.
        SuperpageReserve last = new SuperpageReserve();
        Setups.touchFirst(last, 0, 15);
        last.split(0);
        Check.due("write to a shared page for the last frame", last.write(1, 3, 0, 1), 0);
        Check.due("inUse then", last.inUse(), 16);
        Check.due("write to the next shared page", last.write(1, 4, 0, 1), FULL);
        Check.due("write to the page that is its own", last.write(0, 3, 0, 2), 0);
    }

    private static void promise3WriteRefused() {
        Check.unchanged("write to an absent page when full", Setups::fill, y -> y.write(0, 8, 0, 1), FULL);
        Check.unchanged("write to a shared page when full", Setups::fillSharing, y -> y.write(0, 0, 0, 1), FULL);
        Check.unchanged("process 1's write to a shared page when full", Setups::fillSharing, y -> y.write(1, 15, 3, 1), FULL);
        Check.unchanged("write to a read-only page", y -> {
            y.touch(0, 1);
            y.protect(0, 1, 1);
        }, y -> y.write(0, 1, 0, 1), READ_ONLY);
        Check.unchanged("write to a read-only shared page", Setups::shareReadOnly, y -> y.write(1, 2, 0, 1), READ_ONLY);
        Check.unchanged("write to a read-only shared page when full", y -> {
            Setups.fillSharing(y);
            y.protect(0, 2, 1);
        }, y -> y.write(0, 2, 0, 1), READ_ONLY);
        for (int p : Setups.WRONG_PROCESSES) {
            Check.unchanged("write to process " + p, Setups::fill, y -> y.write(p, 0, 0, 1), BAD_ARG);
        }
        for (int v : Setups.WRONG_PAGES) {
            Check.unchanged("write to page " + v, Setups::fill, y -> y.write(0, v, 0, 1), BAD_ARG);
        }
        for (int w : Setups.WRONG_WORDS) {
            Check.unchanged("write to word " + w, Setups::fill, y -> y.write(0, 1, w, 1), BAD_ARG);
            Check.unchanged("write to word " + w + " of an absent page when full", Setups::fill, y -> y.write(1, 9, w, 1), BAD_ARG);
            Check.unchanged("write to word " + w + " of a read-only page", Setups::shareReadOnly, y -> y.write(0, 2, w, 1), BAD_ARG);
        }
    }

    private static void promise4Read() {
        SuperpageReserve x = new SuperpageReserve();
        Check.due("read of an absent page", x.read(0, 0, 0), 0);
        Check.due("state after read of an absent page", x.state(0, 0), 0);
        for (int i = 0; i < 64; i++) {
            x.write(i % 2, i / 8, i / 2 % 4, 1000 + i);
        }
        for (int i = 0; i < 64; i++) {
            Check.due("read of word " + i, x.read(i % 2, i / 8, i / 2 % 4), 1000 + i);
        }
        for (int p : Setups.WRONG_PROCESSES) {
            Check.unchanged("read of process " + p, Setups::fill, y -> y.read(p, 1, 1), 0);
        }
        for (int v : Setups.WRONG_PAGES) {
            Check.unchanged("read of page " + v, Setups::fill, y -> y.read(0, v, 1), 0);
        }
        for (int w : Setups.WRONG_WORDS) {
            Check.unchanged("read of word " + w, Setups::fill, y -> y.read(0, 1, w), 0);
        }
        x.protect(0, 1, 1);
        Check.due("read of a read-only page", x.read(0, 1, 0), 1008);
        x.unmap(0, 1);
        Check.due("read of an unmapped page", x.read(0, 1, 0), 0);
    }

    private static void promise5Unmap() {
        SuperpageReserve x = new SuperpageReserve();
        x.write(0, 5, 2, 7);
        x.write(1, 5, 2, 8);
        Check.due("unmap of a present page", x.unmap(0, 5), 0);
        Check.due("its state", x.state(0, 5), 0);
        Check.due("its word", x.read(0, 5, 2), 0);
        Check.due("the other process's word", x.read(1, 5, 2), 8);
        Check.due("inUse after unmap", x.inUse(), 1);
        Check.due("unmap again", x.unmap(0, 5), ABSENT);
        x.protect(1, 5, 1);
        Check.due("unmap of a read-only page", x.unmap(1, 5), 0);

        for (int p = 0; p < 2; p++) {
            SuperpageReserve y = new SuperpageReserve();
            Setups.shareReadOnly(y);
            Check.due("unmap of a shared page", y.unmap(p, 2), 0);
            Check.due("its state then", y.state(p, 2), 0);
            Check.due("shared then", y.shared(2), false);
            Check.due("the other's state then", y.state(1 - p, 2), 2);
            Check.due("the other's word then", y.read(1 - p, 2, 1), 21);
            Check.due("inUse then", y.inUse(), 2);
            Check.due("shared of the page beside it", y.shared(3), true);
            Check.due("touch after unmap", y.touch(p, 2), 1);
            Check.due("shared after touch", y.shared(2), false);
        }
        SuperpageReserve full = new SuperpageReserve();
        Setups.fill(full);
        Check.due("unmap when full", full.unmap(1, 0), 0);
        Check.due("touch of another page then", full.touch(0, 15), 1);
        Check.due("touch of one more", full.touch(0, 14), FULL);

        Check.unchanged("unmap of an absent page", Setups::fill, y -> y.unmap(1, 8), ABSENT);
        for (int p : Setups.WRONG_PROCESSES) {
            Check.unchanged("unmap of process " + p, Setups::fill, y -> y.unmap(p, 0), BAD_ARG);
        }
        for (int v : Setups.WRONG_PAGES) {
            Check.unchanged("unmap of page " + v, Setups::fill, y -> y.unmap(0, v), BAD_ARG);
        }
    }

    private static void promise6Protect() {
        SuperpageReserve x = new SuperpageReserve();
        x.write(0, 9, 1, 6);
        Check.due("protect of a writable page", x.protect(0, 9, 1), 0);
        Check.due("its state", x.state(0, 9), 2);
        Check.due("protect again", x.protect(0, 9, -5), 1);
        Check.due("its state still", x.state(0, 9), 2);
        Check.due("its word", x.read(0, 9, 1), 6);
        Check.due("protect off", x.protect(0, 9, 0), 1);
        Check.due("its state after off", x.state(0, 9), 1);
        Check.due("protect off again", x.protect(0, 9, 0), 0);
        for (int on : new int[] {2, 256, Integer.MIN_VALUE, Integer.MAX_VALUE, -1}) {
            Check.due("protect with " + on, x.protect(0, 9, on), 0);
            Check.due("the state then", x.state(0, 9), 2);
            x.protect(0, 9, 0);
        }
        for (int p = 0; p < 2; p++) {
            SuperpageReserve y = new SuperpageReserve();
            Setups.shareReadOnly(y);
            Check.due("protect off of a shared page", y.protect(p, 2, 0), 1);
            Check.due("its own state", y.state(p, 2), 1);
            Check.due("the other's state", y.state(1 - p, 2), 2);
            Check.due("whether it stays shared", y.shared(2), true);
            Check.due("protect on of a shared page", y.protect(p, 3, 1), 0);
            Check.due("the other's state there", y.state(1 - p, 3), 1);
        }
        Check.unchanged("protect of an absent page", Setups::fill, y -> y.protect(0, 8, 1), ABSENT);
        Check.unchanged("protect off of an absent page", Setups::fill, y -> y.protect(0, 8, 0), ABSENT);
        for (int p : Setups.WRONG_PROCESSES) {
            Check.unchanged("protect of process " + p, Setups::fill, y -> y.protect(p, 0, 1), BAD_ARG);
        }
        for (int v : Setups.WRONG_PAGES) {
            Check.unchanged("protect of page " + v, Setups::fill, y -> y.protect(0, v, 1), BAD_ARG);
        }
    }

    private static void promise7State() {
        SuperpageReserve x = new SuperpageReserve();
        x.touch(0, 0);
        x.touch(1, 15);
        x.protect(1, 15, 1);
        Check.due("state of a writable page", x.state(0, 0), 1);
        Check.due("state of a read-only page", x.state(1, 15), 2);
        Check.due("state of an absent page", x.state(0, 15), 0);
        x.unmap(1, 15);
        Check.due("state of a page made absent", x.state(1, 15), 0);
        for (int p : Setups.WRONG_PROCESSES) {
            Check.unchanged("state of process " + p, Setups::fill, y -> y.state(p, 0), BAD_ARG);
        }
        for (int v : Setups.WRONG_PAGES) {
            Check.unchanged("state of page " + v, Setups::fill, y -> y.state(0, v), BAD_ARG);
        }
    }

    private static void promise8Shared() {
        SuperpageReserve x = new SuperpageReserve();
        Setups.fillSharing(x);
        for (int v = 0; v < 16; v++) {
            Check.due("shared of page " + v + " after split", x.shared(v), true);
        }
        for (int v : Setups.WRONG_PAGES) {
            Check.due("shared of page " + v, x.shared(v), false);
        }
        SuperpageReserve y = new SuperpageReserve();
        y.touch(0, 0);
        y.touch(1, 0);
        Check.due("shared of two pages touched apart", y.shared(0), false);
        Check.due("shared of two absent pages", y.shared(1), false);
        y.split(1);
        Check.due("shared after split", y.shared(0), true);
        Check.due("shared of two absent pages after split", y.shared(1), false);
        y.read(0, 0, 0);
        y.touch(0, 0);
        Check.due("shared after read and touch", y.shared(0), true);
    }

    private static void promise9Split() {
        for (int p = 0; p < 2; p++) {
            SuperpageReserve x = new SuperpageReserve();
            int q = 1 - p;
            x.write(p, 0, 3, 30);
            x.write(p, 15, 0, 40);
            x.protect(p, 15, 1);
            x.write(q, 0, 1, 50);
            x.write(q, 8, 2, 60);
            x.protect(q, 0, 1);
            Check.due("split", x.split(p), 2);
            Check.due("the other's page that p has not", x.state(q, 8), 0);
            Check.due("its word", x.read(q, 8, 2), 0);
            Check.due("p's page 8", x.state(p, 8), 0);
            Check.due("the other's writable page", x.state(q, 0), 1);
            Check.due("the other's read-only page", x.state(q, 15), 2);
            Check.due("the other's own old word", x.read(q, 0, 1), 0);
            Check.due("the other's new word", x.read(q, 0, 3), 30);
            Check.due("the other's word of page 15", x.read(q, 15, 0), 40);
            Check.due("p's word", x.read(p, 0, 3), 30);
            Check.due("p's state of page 15", x.state(p, 15), 2);
            Check.due("shared of page 0", x.shared(0), true);
            Check.due("shared of page 8", x.shared(8), false);
            Check.due("shared of page 15", x.shared(15), true);
            Check.due("present of the other", x.present(q), 2);
            Check.due("inUse", x.inUse(), 2);
        }
        SuperpageReserve none = new SuperpageReserve();
        none.touch(1, 3);
        Check.due("split of a process without pages", none.split(0), 0);
        Check.due("the other's page then", none.state(1, 3), 0);
        for (int p : Setups.WRONG_PROCESSES) {
            Check.unchanged("split of process " + p, Setups::fill, y -> y.split(p), BAD_ARG);
        }
    }

    private static void promise9SplitAgain() {
        SuperpageReserve x = new SuperpageReserve();
        Setups.shareReadOnly(x);
        x.protect(1, 2, 0);
        x.unmap(0, 3);
        Check.due("split of the other side", x.split(1), 2);
        Check.due("the setting taken from it", x.state(0, 2), 1);
        Check.due("the page that comes back", x.read(0, 3, 0), 30);
        Check.due("whether it is shared again", x.shared(3), true);
        Check.due("inUse", x.inUse(), 2);

        SuperpageReserve full = new SuperpageReserve();
        Setups.fill(full);
        Check.due("split when full", full.split(0), 8);
        Check.due("inUse after split when full", full.inUse(), 8);
        Setups.touchFirst(full, 0, 16);
        Check.due("split with all pages present", full.split(0), 16);
        Check.due("inUse with all pages shared", full.inUse(), 16);
    }

    private static void promise10Copy() {
        SuperpageReserve x = new SuperpageReserve();
        for (int w = 0; w < 4; w++) {
            x.write(1, 2, w, 70 + w);
            x.write(1, 3, w, 80 + w);
            x.write(0, 2, w, 90 + w);
        }
        Check.due("copy to an absent page", x.copy(1, 2, 15), 0);
        Check.due("copy to a present page", x.copy(1, 2, 3), 0);
        for (int w = 0; w < 4; w++) {
            Check.due("word " + w + " of the page copied to", x.read(1, 15, w), 70 + w);
            Check.due("word " + w + " of the page copied over", x.read(1, 3, w), 70 + w);
            Check.due("word " + w + " of the page copied", x.read(1, 2, w), 70 + w);
        }
        Check.due("state of the page copied to", x.state(1, 15), 1);
        Check.due("the other process's page", x.state(0, 15), 0);
        Check.due("copy onto itself", x.copy(1, 2, 2), 0);
        Check.due("its word then", x.read(1, 2, 3), 73);
        Check.due("copy of an absent page over a present one", x.copy(1, 9, 3), 0);
        Check.due("the word copied over", x.read(1, 3, 1), 0);
        Check.due("its state", x.state(1, 3), 1);
        Check.due("the absent page copied", x.state(1, 9), 0);
        Check.due("copy of an absent page onto itself", x.copy(1, 9, 9), 0);
        Check.due("its state then", x.state(1, 9), 1);
        x.protect(1, 2, 1);
        Check.due("copy of a read-only page", x.copy(1, 2, 4), 0);
        Check.due("the state of its copy", x.state(1, 4), 1);
        Check.due("the state of the read-only page", x.state(1, 2), 2);

        SuperpageReserve full = new SuperpageReserve();
        Setups.fill(full);
        Check.due("copy between own pages when full", full.copy(0, 1, 7), 0);
        Check.due("the word copied when full", full.read(0, 7, 2), full.read(0, 1, 2));
    }

    private static void promise10CopyOntoSharedPage() {
        for (int p = 0; p < 2; p++) {
            SuperpageReserve x = new SuperpageReserve();
            Setups.shareReadOnly(x);
            Check.due("copy from a shared to a shared page", x.copy(p, 2, 3), 0);
            Check.due("shared of the page copied", x.shared(2), true);
            Check.due("shared of the page copied to", x.shared(3), false);
            Check.due("the word copied", x.read(p, 3, 1), 21);
            Check.due("the other's word", x.read(1 - p, 3, 1), 31);
            Check.due("inUse", x.inUse(), 3);
            SuperpageReserve y = new SuperpageReserve();
            Setups.shareReadOnly(y);
            Check.due("copy of a shared page onto itself", y.copy(p, 3, 3), 0);
            Check.due("shared of it", y.shared(3), false);
            Check.due("its word", y.read(p, 3, 1), 31);
            Check.due("the other's same word", y.read(1 - p, 3, 1), 31);
        }
    }

    private static void promise10CopyRefused() {
        Check.unchanged("copy to an absent page when full", Setups::fill, y -> y.copy(0, 1, 8), FULL);
        Check.unchanged("copy of an absent page onto itself when full", Setups::fill, y -> y.copy(0, 8, 8), FULL);
        Check.unchanged("copy to a shared page when full", Setups::fillSharing, y -> y.copy(1, 1, 8), FULL);
        Check.unchanged("copy of a shared page onto itself when full", Setups::fillSharing, y -> y.copy(0, 1, 1), FULL);
        Check.unchanged("copy to a read-only page", Setups::shareReadOnly, y -> y.copy(0, 3, 2), READ_ONLY);
        Check.unchanged("copy of a read-only page onto itself", Setups::shareReadOnly, y -> y.copy(1, 2, 2), READ_ONLY);
        Check.unchanged("copy of an absent page to a read-only one", Setups::shareReadOnly, y -> y.copy(1, 9, 2), READ_ONLY);
        Check.unchanged("copy to a read-only shared page when full", y -> {
            Setups.fillSharing(y);
            y.protect(1, 4, 1);
        }, y -> y.copy(1, 0, 4), READ_ONLY);
        for (int p : Setups.WRONG_PROCESSES) {
            Check.unchanged("copy in process " + p, Setups::fill, y -> y.copy(p, 0, 1), BAD_ARG);
        }
        for (int v : Setups.WRONG_PAGES) {
            Check.unchanged("copy of page " + v, Setups::fill, y -> y.copy(0, v, 1), BAD_ARG);
            Check.unchanged("copy to page " + v, Setups::fill, y -> y.copy(0, 1, v), BAD_ARG);
            Check.unchanged("copy of page " + v + " to a read-only one", Setups::shareReadOnly, y -> y.copy(0, v, 2), BAD_ARG);
        }
    }

    private static void promise11UnmapRange() {
        SuperpageReserve x = new SuperpageReserve();
        Setups.fill(x);
        x.protect(0, 3, 1);
        Check.due("unmapRange over present and absent pages", x.unmapRange(0, 3, 9), 5);
        Check.due("the page before it", x.state(0, 2), 1);
        Check.due("its first page", x.state(0, 3), 0);
        Check.due("its last present page", x.state(0, 7), 0);
        Check.due("its first page's word", x.read(0, 3, 1), 0);
        Check.due("the other process's present", x.present(1), 8);
        Check.due("inUse", x.inUse(), 11);
        Check.due("unmapRange of one page", x.unmapRange(1, 7, 7), 1);
        Check.due("unmapRange of an absent page", x.unmapRange(1, 7, 7), 0);
        Check.due("unmapRange from after to", x.unmapRange(1, 6, 5), 0);
        Check.due("unmapRange from 15 to 0", x.unmapRange(1, 15, 0), 0);
        Check.due("present after the empty ranges", x.present(1), 7);
        Check.due("unmapRange of all", x.unmapRange(1, 0, 15), 7);
        Check.due("present after all", x.present(1), 0);

        SuperpageReserve y = new SuperpageReserve();
        Setups.fillSharing(y);
        Check.due("unmapRange of shared pages", y.unmapRange(0, 14, 15), 2);
        Check.due("shared of the last", y.shared(15), false);
        Check.due("shared of the one before the range", y.shared(13), true);
        Check.due("the other's state", y.state(1, 15), 1);
        Check.due("the other's word", y.read(1, 15, 0), 115);
        Check.due("inUse after shared pages", y.inUse(), 16);

        for (int p : Setups.WRONG_PROCESSES) {
            Check.unchanged("unmapRange of process " + p, Setups::fill, z -> z.unmapRange(p, 0, 15), BAD_ARG);
        }
        for (int v : Setups.WRONG_PAGES) {
            Check.unchanged("unmapRange from " + v, Setups::fill, z -> z.unmapRange(0, v, 15), BAD_ARG);
            Check.unchanged("unmapRange to " + v, Setups::fill, z -> z.unmapRange(0, 0, v), BAD_ARG);
        }
    }

    private static void promise12Present() {
        SuperpageReserve x = new SuperpageReserve();
        for (int v = 0; v < 16; v++) {
            Check.due("present before touch " + v, x.present(1), v);
            x.touch(1, v);
        }
        Check.due("present of all", x.present(1), 16);
        Check.due("present of the other", x.present(0), 0);
        x.protect(1, 3, 1);
        Check.due("present with a read-only page", x.present(1), 16);
        x.split(1);
        Check.due("present of the other after split", x.present(0), 16);
        x.unmap(1, 0);
        Check.due("present after unmap", x.present(1), 15);
        for (int p : Setups.WRONG_PROCESSES) {
            Check.unchanged("present of process " + p, Setups::fill, y -> y.present(p), BAD_ARG);
        }
    }

    private static void promise13InUse() {
        SuperpageReserve x = new SuperpageReserve();
        Check.due("inUse of a new object", x.inUse(), 0);
        for (int i = 0; i < 16; i++) {
            x.touch(i % 2, i / 2);
            Check.due("inUse after touch " + i, x.inUse(), i + 1);
        }
        x.touch(0, 15);
        Check.due("inUse after a refused touch", x.inUse(), 16);
        x.split(0);
        Check.due("inUse after split", x.inUse(), 8);
        x.write(1, 0, 0, 1);
        Check.due("inUse after a sharing ended", x.inUse(), 9);
        x.unmap(0, 1);
        Check.due("inUse after one side is unmapped", x.inUse(), 9);
        x.unmap(1, 1);
        Check.due("inUse after both sides are unmapped", x.inUse(), 8);

        SuperpageReserve y = new SuperpageReserve();
        Setups.fillSharing(y);
        Check.due("inUse with 32 pages in 16 frames", y.inUse(), 16);
    }

    private static void promise14Digest() {
        SuperpageReserve x = new SuperpageReserve();
        Check.due("digest of a new object", x.digest(0), 0);
        x.write(0, 0, 0, 1);
        Check.due("digest of the first word", x.digest(0), 1);
        x.write(0, 15, 3, 1);
        Check.due("digest with the last word", x.digest(0), 65);
        x.write(0, 2, 1, -3);
        Check.due("digest with a negative word", x.digest(0), 35);
        Check.due("digest of the other", x.digest(1), 0);
        x.write(1, 1, 0, 2);
        Check.due("digest of process 1", x.digest(1), 10);
        x.split(0);
        Check.due("digest of process 1 after split", x.digest(1), 35);
        x.unmap(1, 2);
        Check.due("digest after unmap", x.digest(1), 65);

        SuperpageReserve y = new SuperpageReserve();
        y.write(1, 0, 1, Integer.MAX_VALUE);
        Check.due("digest that wraps in a product", y.digest(1), -2);
        y.write(1, 0, 0, Integer.MIN_VALUE);
        Check.due("digest that wraps in the sum", y.digest(1), Integer.MAX_VALUE - 1);
        y.protect(1, 0, 1);
        Check.due("digest of a read-only page", y.digest(1), Integer.MAX_VALUE - 1);
        for (int p : Setups.WRONG_PROCESSES) {
            Check.unchanged("digest of process " + p, Setups::fill, z -> z.digest(p), 0);
        }
    }
}
