import java.math.BigInteger;
import java.util.Collections;
import java.util.function.Consumer;

/** One method for each sentence of the promises 1 to 14 that names a boundary case. */
public final class BoundaryTest {
    private static final int BAD_ARG = -1;
    private static final int FULL = -2;
    private static final int ABSENT = -3;
    private static final int READ_ONLY = -4;

    /** A test for one page of one process, done for every one of them. */
    private interface PageTest {
        void of(int p, int v);
    }

    public static void main(String[] args) {
        promise1AllPagesAbsent();
        promise2FullWhenAbsent();
        promise2OneFrameLeft();
        promise2PresentPageStays();
        promise2OneOrZero();
        promise3ReadOnlyFirst();
        promise3AbsentAsByTouch();
        promise3AbsentWhenFull();
        promise3SharedOtherKeepsWords();
        promise3SharedWhenFull();
        promise4AbsentReadsZero();
        promise4WrongArgumentReadsZero();
        promise5SharedPageStays();
        promise5AbsentWhenAbsent();
        promise6OnNotZero();
        promise6SharedKeepsItsSetting();
        promise6AbsentWhenAbsent();
        promise7ThreeStates();
        promise8FalseOutOfRange();
        promise8SharedOnlyBySplit();
        promise9OtherBecomesAbsent();
        promise9EveryPresentPage();
        promise9NumberOfPages();
        promise10RefusedChangesNothing();
        promise10OneFrameLeft();
        promise10AbsentPageCopiesZeros();
        promise10WordsAsTheyWereBefore();
        promise10ArgumentsFirst();
        promise11BothIncluded();
        promise11WherePresent();
        promise11EmptyRange();
        promise11WrongArguments();
        promise12NoneToAll();
        promise12WrongProcess();
        promise13ZeroToSixteen();
        promise14Wrapping();
        promise14PresentPagesOnly();
        promise14EveryWord();
        promise14WrongProcess();
        Check.end();
    }

    private static void promise1AllPagesAbsent() {
        Check.about("Promise 1: All pages of both processes are absent.");
        Check.due("everything seen of a new object", Check.seen(new SuperpageReserve()), Collections.nCopies(181, 0));
        forEveryPage((p, v) -> {
            SuperpageReserve x = new SuperpageReserve();
            Check.due("state" + page(p, v), x.state(p, v), 0);
            Check.due("unmap" + page(p, v), x.unmap(p, v), ABSENT);
            Check.due("protect" + page(p, v), x.protect(p, v, 1), ABSENT);
            Check.due("touch" + page(p, v), x.touch(p, v), 1);
        });
        for (int p = 0; p < 2; p++) {
            Check.due("unmapRange of all", new SuperpageReserve().unmapRange(p, 0, 15), 0);
            Check.due("split", new SuperpageReserve().split(p), 0);
        }
    }

    private static void promise2FullWhenAbsent() {
        Check.about("Promise 2: FULL if it is absent and 16 frames are in use.");
        forEveryPage((p, v) -> {
            Check.unchanged("touch when the other has all 16," + page(p, v), x -> Setups.fillOne(x, 1 - p), x -> x.touch(p, v), FULL);
            Check.unchanged("touch when shared pages fill the frames," + page(p, v), x -> fillBeside(x, p, v), x -> x.touch(p, v), FULL);
            if (v >= 8) {
                Check.unchanged("touch when both have 8," + page(p, v), Setups::fill, x -> x.touch(p, v), FULL);
            }
        });
    }

    private static void promise2OneFrameLeft() {
        Check.about("Promise 2: FULL if it is absent and 16 frames are in use. Otherwise 1");
        forEveryPage((p, v) -> {
            SuperpageReserve x = Setups.made(y -> Setups.fillOne(y, 1 - p));
            x.unmap(1 - p, (v + 5) % 16);
            Check.due("touch for the last frame" + page(p, v), x.touch(p, v), 1);
            Check.due("touch of one more", x.touch(p, (v + 1) % 16), FULL);

            SuperpageReserve y = Setups.made(z -> fillBeside(z, p, v));
            y.unmap(0, (v + 1) % 16);
            Check.due("touch after one side of a shared page is unmapped" + page(p, v), y.touch(p, v), FULL);
            y.unmap(1, (v + 1) % 16);
            Check.due("touch after both sides are" + page(p, v), y.touch(p, v), 1);
        });
    }

    private static void promise2PresentPageStays() {
        Check.about("Promise 2: an already present page stays as it is.");
        Setups.all().forEach((name, setup) -> forEveryPage((p, v) -> {
            if (Setups.made(setup).state(p, v) != 0) {
                Check.unchanged(name + ": touch" + page(p, v), setup, x -> x.touch(p, v), 0);
            }
        }));
    }

    private static void promise2OneOrZero() {
        Check.about("Promise 2: with four words 0, writable ... Otherwise 1 if the page was made present, 0 if it was so before.");
        forEveryPage((p, v) -> {
            SuperpageReserve x = Setups.made(y -> Setups.fillOne(y, p));
            x.protect(p, v, 1);
            x.unmap(p, v);
            Check.due("touch" + page(p, v), x.touch(p, v), 1);
            Check.due("touch again", x.touch(p, v), 0);
            Check.due("state", x.state(p, v), 1);
            dueWords(x, p, v, 0, 0, 0, 0);
        });
    }

    private static void promise3ReadOnlyFirst() {
        Check.about("Promise 3: Tested in this order (after the arguments): a present read-only page answers READ_ONLY");
        forEveryPage((p, v) -> {
            readOnlyRefuses("own, a frame free", p, v, x -> x.touch(p, v));
            readOnlyRefuses("own, full", p, v, x -> Setups.fillOne(x, p));
            readOnlyRefuses("shared, a frame free", p, v, x -> Setups.shareAllBut(x, (v + 1) % 16));
            readOnlyRefuses("shared, full", p, v, Setups::fillSharing);
        });
    }

    private static void readOnlyRefuses(String name, int p, int v, Consumer<SuperpageReserve> setup) {
        for (int word = 0; word < 4; word++) {
            int w = word;
            Check.unchanged("write to word " + w + " when " + name + page(p, v), x -> {
                setup.accept(x);
                x.protect(p, v, 1);
            }, x -> x.write(p, v, w, 77), READ_ONLY);
        }
    }

    private static void promise3AbsentAsByTouch() {
        Check.about("Promise 3: an absent page is made present as by touch");
        forEveryPage((p, v) -> {
            SuperpageReserve x = Setups.made(y -> Setups.fillOne(y, p));
            x.protect(p, v, 1);
            x.unmap(p, v);
            Check.due("write" + page(p, v), x.write(p, v, 2, 77), 0);
            dueWords(x, p, v, 0, 0, 77, 0);
            Check.due("state", x.state(p, v), 1);
            Check.due("inUse", x.inUse(), 16);

            SuperpageReserve y = new SuperpageReserve();
            y.write(1 - p, v, 1, 66);
            y.protect(1 - p, v, 1);
            Check.due("write beside the other's read-only page" + page(p, v), y.write(p, v, 0, 77), 0);
            dueWords(y, p, v, 77, 0, 0, 0);
            dueWords(y, 1 - p, v, 0, 66, 0, 0);
            Check.due("shared", y.shared(v), false);
            Check.due("the other's state", y.state(1 - p, v), 2);
        });
    }

    private static void promise3AbsentWhenFull() {
        Check.about("Promise 3: an absent page ... answers FULL as there");
        forEveryPage((p, v) -> {
            Check.unchanged("write when the other has all 16," + page(p, v), x -> Setups.fillOne(x, 1 - p), x -> x.write(p, v, 0, 77), FULL);
            Check.unchanged("write when shared pages fill the frames," + page(p, v), x -> fillBeside(x, p, v), x -> x.write(p, v, 3, 77), FULL);
            SuperpageReserve x = Setups.made(y -> Setups.fillOne(y, 1 - p));
            x.unmap(1 - p, (v + 5) % 16);
            Check.due("write for the last frame" + page(p, v), x.write(p, v, 0, 77), 0);
            Check.due("write to one more", x.write(p, (v + 1) % 16, 0, 77), FULL);
            Check.due("write to the page it now has", x.write(p, v, 1, 77), 0);
        });
    }

    private static void promise3SharedOtherKeepsWords() {
        Check.about("Promise 3: a shared page stops being shared (the other keeps the words as they are)");
        forEveryPage((p, v) -> {
            SuperpageReserve x = Setups.made(y -> Setups.shareAllBut(y, (v + 1) % 16));
            Check.due("write for the last frame" + page(p, v), x.write(p, v, 2, 77), 0);
            Check.due("shared", x.shared(v), false);
            dueWords(x, p, v, 1, 2, 77, 4);
            dueWords(x, 1 - p, v, 1, 2, 3, 4);
            Check.due("inUse", x.inUse(), 16);
            Check.due("the other's write when full", x.write(1 - p, v, 0, 88), 0);
            dueWords(x, p, v, 1, 2, 77, 4);
            dueWords(x, 1 - p, v, 88, 2, 3, 4);
        });
    }

    private static void promise3SharedWhenFull() {
        Check.about("Promise 3: a shared page ... answers FULL if 16 frames are in use.");
        forEveryPage((p, v) -> {
            Check.unchanged("write when all are shared" + page(p, v), Setups::fillSharing, x -> x.write(p, v, 0, 77), FULL);
            Check.unchanged("write of the same word" + page(p, v), Setups::fillSharing, x -> x.write(p, v, 0, 100 + v), FULL);
            int left = (v + 1) % 16;
            Check.unchanged("write when one is not shared" + page(p, v), x -> {
                Setups.shareAllBut(x, left);
                x.touch(1 - p, left);
            }, x -> x.write(p, v, 3, 77), FULL);
        });
    }

    private static void promise4AbsentReadsZero() {
        Check.about("Promise 4: 0 if the page is absent");
        forEveryPage((p, v) -> {
            dueWords(Setups.made(x -> Setups.fillOne(x, 1 - p)), p, v, 0, 0, 0, 0);
            SuperpageReserve unmapped = Setups.made(x -> Setups.fillOne(x, p));
            unmapped.unmap(p, v);
            dueWords(unmapped, p, v, 0, 0, 0, 0);
            SuperpageReserve ranged = Setups.made(x -> Setups.fillOne(x, p));
            ranged.unmapRange(p, v, v);
            dueWords(ranged, p, v, 0, 0, 0, 0);
            SuperpageReserve split = Setups.made(x -> Setups.fillOne(x, p));
            split.split(1 - p);
            dueWords(split, p, v, 0, 0, 0, 0);
            Check.unchanged("read when absent" + page(p, v), x -> { }, x -> x.read(p, v, 0), 0);
        });
    }

    private static void promise4WrongArgumentReadsZero() {
        Check.about("Promise 4: 0 if ... an argument is out of range.");
        for (int p = 0; p < 2; p++) {
            int process = p;
            Consumer<SuperpageReserve> all = x -> {
                Setups.fillOne(x, process);
                x.split(process);
            };
            for (int i = 0; i < 64; i++) {
                for (int wrong : Setups.WRONG_PROCESSES) {
                    int place = i;
                    Check.unchanged("read of process " + wrong, all, x -> x.read(wrong, place / 4, place % 4), 0);
                }
            }
            for (int w = 0; w < 4; w++) {
                for (int wrong : Setups.WRONG_PAGES) {
                    int word = w;
                    Check.unchanged("read of page " + wrong, all, x -> x.read(process, wrong, word), 0);
                }
            }
            for (int v = 0; v < 16; v++) {
                for (int wrong : Setups.WRONG_WORDS) {
                    int number = v;
                    Check.unchanged("read of word " + wrong, all, x -> x.read(process, number, wrong), 0);
                }
            }
        }
    }

    private static void promise5SharedPageStays() {
        Check.about("Promise 5: a page shared with it stays present and is no longer shared.");
        forEveryPage((p, v) -> {
            for (int on = 0; on < 2; on++) {
                SuperpageReserve x = Setups.made(y -> Setups.shareAllBut(y, (v + 1) % 16));
                x.protect(1 - p, v, on);
                Check.due("unmap" + page(p, v), x.unmap(p, v), 0);
                Check.due("state", x.state(p, v), 0);
                Check.due("the other's state", x.state(1 - p, v), 1 + on);
                dueWords(x, 1 - p, v, 1, 2, 3, 4);
                Check.due("shared", x.shared(v), false);
                Check.due("inUse", x.inUse(), 15);
                x.touch(p, v);
                Check.due("shared after touch", x.shared(v), false);
                Check.due("inUse after touch", x.inUse(), 16);
            }
        });
    }

    private static void promise5AbsentWhenAbsent() {
        Check.about("Promise 5: ABSENT if it is absent. Otherwise 0.");
        Setups.all().forEach((name, setup) -> forEveryPage((p, v) -> {
            SuperpageReserve x = Setups.made(setup);
            if (x.state(p, v) != 0) {
                Check.due(name + ": unmap" + page(p, v), x.unmap(p, v), 0);
                Check.due(name + ": unmap again" + page(p, v), x.unmap(p, v), ABSENT);
            } else {
                Check.unchanged(name + ": unmap" + page(p, v), setup, y -> y.unmap(p, v), ABSENT);
            }
        }));
    }

    private static void promise6OnNotZero() {
        Check.about("Promise 6: read-only (on not 0) or writable (on 0) ... Otherwise 1 if it was read-only before, else 0.");
        int[] notZero = {1, -1, 2, 256, 1 << 16, Integer.MIN_VALUE, Integer.MAX_VALUE};
        forEveryPage((p, v) -> {
            SuperpageReserve x = Setups.made(y -> y.write(p, v, 1, 66));
            for (int on : notZero) {
                Check.due("protect with " + on + page(p, v), x.protect(p, v, on), 0);
                Check.due("state", x.state(p, v), 2);
                Check.due("protect again", x.protect(p, v, on), 1);
                Check.due("state still", x.state(p, v), 2);
                Check.due("protect with 0", x.protect(p, v, 0), 1);
                Check.due("state after 0", x.state(p, v), 1);
                Check.due("protect with 0 again", x.protect(p, v, 0), 0);
            }
            dueWords(x, p, v, 0, 66, 0, 0);
        });
    }

    private static void promise6SharedKeepsItsSetting() {
        Check.about("Promise 6: a page shared with it keeps its own setting.");
        forEveryPage((p, v) -> {
            SuperpageReserve x = Setups.made(Setups::fillSharing);
            Check.due("protect" + page(p, v), x.protect(p, v, 1), 0);
            Check.due("the other's state", x.state(1 - p, v), 1);
            Check.due("the other's protect", x.protect(1 - p, v, 1), 0);
            Check.due("protect with 0", x.protect(p, v, 0), 1);
            Check.due("the other's state then", x.state(1 - p, v), 2);
            Check.due("state", x.state(p, v), 1);
            Check.due("shared", x.shared(v), true);
        });
    }

    private static void promise6AbsentWhenAbsent() {
        Check.about("Promise 6: ABSENT if it is absent.");
        Setups.all().forEach((name, setup) -> forEveryPage((p, v) -> {
            if (Setups.made(setup).state(p, v) == 0) {
                Check.unchanged(name + ": protect" + page(p, v), setup, x -> x.protect(p, v, 1), ABSENT);
                Check.unchanged(name + ": protect with 0" + page(p, v), setup, x -> x.protect(p, v, 0), ABSENT);
            }
        }));
        forEveryPage((p, v) -> {
            SuperpageReserve x = new SuperpageReserve();
            x.protect(p, v, 1);
            x.touch(p, v);
            Check.due("state of a page protected before it was present" + page(p, v), x.state(p, v), 1);
        });
    }

    private static void promise7ThreeStates() {
        Check.about("Promise 7: 0 if the page is absent, 1 if it is present and writable, 2 if it is present and read-only.");
        int[][] due = {
            {1, 2, 1, 1, 1, 2, 1, 1, 1, 2, 1, 0, 0, 0, 0, 0},
            {1, 2, 1, 1, 1, 1, 2, 1, 0, 0, 0, 0, 1, 2, 1, 0}};
        forEveryPage((p, v) -> Check.unchanged("state" + page(p, v), Setups::mixed, x -> x.state(p, v), due[p][v]));
    }

    private static void promise8FalseOutOfRange() {
        Check.about("Promise 8: false if v is not 0 to 15.");
        for (int v : Setups.WRONG_PAGES) {
            Check.unchanged("shared(" + v + ")", Setups::fillSharing, x -> x.shared(v) ? 1 : 0, 0);
        }
        for (int v = 0; v < 16; v++) {
            Check.due("shared(" + v + ")", Setups.made(Setups::fillSharing).shared(v), true);
        }
    }

    private static void promise8SharedOnlyBySplit() {
        Check.about("Promise 8: Whether the pages v of the two processes are shared");
        forEveryPage((p, v) -> {
            SuperpageReserve x = new SuperpageReserve();
            Check.due("shared when both are absent" + page(p, v), x.shared(v), false);
            x.write(p, v, 0, 66);
            Check.due("shared when one is absent" + page(p, v), x.shared(v), false);
            x.write(1 - p, v, 0, 66);
            Check.due("shared when both have the same words" + page(p, v), x.shared(v), false);
            x.split(p);
            Check.due("shared after split" + page(p, v), x.shared(v), true);
            Check.due("shared of the next page", x.shared((v + 1) % 16), false);
        });
    }

    private static void promise9OtherBecomesAbsent() {
        Check.about("Promise 9: all pages of the other process become absent");
        for (int p = 0; p < 2; p++) {
            int other = 1 - p;
            SuperpageReserve x = Setups.made(y -> Setups.fillOne(y, other));
            for (int v = 0; v < 16; v += 2) {
                x.protect(other, v, 1);
            }
            Check.due("split of a process without pages", x.split(p), 0);
            Check.due("everything seen then", Check.seen(x), Collections.nCopies(181, 0));
            Check.due("touch when the frames are free again", x.touch(p, 0), 1);

            SuperpageReserve shared = Setups.made(Setups::fillSharing);
            shared.unmapRange(p, 0, 15);
            Check.due("split of the side that was unmapped", shared.split(p), 0);
            Check.due("everything seen then", Check.seen(shared), Collections.nCopies(181, 0));
        }
    }

    private static void promise9EveryPresentPage() {
        Check.about("Promise 9: becomes present, shared with it, with the same setting (writable or read-only).");
        for (int p = 0; p < 2; p++) {
            int other = 1 - p;
            SuperpageReserve x = Setups.made(Setups::fillMixed);
            SuperpageReserve before = Setups.made(Setups::fillMixed);
            x.split(p);
            for (int v = 0; v < 16; v++) {
                int state = before.state(p, v);
                Check.due("state" + page(p, v), x.state(p, v), state);
                Check.due("state" + page(other, v), x.state(other, v), state);
                Check.due("shared(" + v + ")", x.shared(v), state != 0);
                for (int w = 0; w < 4; w++) {
                    int word = before.read(p, v, w);
                    Check.due("word " + w + page(p, v), x.read(p, v, w), word);
                    Check.due("word " + w + page(other, v), x.read(other, v, w), word);
                }
            }
            Check.due("inUse", x.inUse(), before.present(p));
        }
    }

    private static void promise9NumberOfPages() {
        Check.about("Promise 9: Answers the number of present pages of p.");
        for (int i = 0; i < 34; i++) {
            int p = i % 2;
            int count = i / 2;
            SuperpageReserve x = new SuperpageReserve();
            Setups.touchFirst(x, p, count);
            Setups.touchFirst(x, 1 - p, 16);
            Check.due("split of a process with " + count + " pages", x.split(p), count);
            Check.due("inUse", x.inUse(), count);
            Check.due("split of the other then", x.split(1 - p), count);
        }
        for (int p : Setups.WRONG_PROCESSES) {
            Check.unchanged("split(" + p + ")", Setups::fillMixed, x -> x.split(p), BAD_ARG);
        }
    }

    private static void promise10RefusedChangesNothing() {
        Check.about("Promise 10: if one of them would be refused, nothing is changed and its code answered.");
        forEveryPage((p, u) -> {
            for (int from : new int[] {u, (u + 1) % 16, (u + 2) % 16}) {
                String told = "copy of page " + from + " to" + page(p, u);
                Check.unchanged(told + ", absent, full", x -> Setups.fillOne(x, 1 - p), x -> x.copy(p, from, u), FULL);
                Check.unchanged(told + ", absent, shared pages fill the frames", x -> fillBeside(x, p, u), x -> x.copy(p, from, u), FULL);
                Check.unchanged(told + ", shared, full", Setups::fillSharing, x -> x.copy(p, from, u), FULL);
                Check.unchanged(told + ", shared, read-only, full", x -> {
                    Setups.fillSharing(x);
                    x.protect(p, u, 1);
                }, x -> x.copy(p, from, u), READ_ONLY);
                Check.unchanged(told + ", own, read-only", x -> {
                    x.write(p, u, 1, 66);
                    x.protect(p, u, 1);
                }, x -> x.copy(p, from, u), READ_ONLY);
            }
        });
    }

    private static void promise10OneFrameLeft() {
        Check.about("Promise 10: as four writes of words 0 to 3 of page u ... Otherwise 0.");
        forEveryPage((p, u) -> {
            int from = (u + 3) % 16;
            int left = (u + 1) % 16;
            SuperpageReserve x = Setups.made(y -> Setups.shareAllBut(y, left));
            x.protect(p, from, 1);
            Check.due("copy to a shared page for the last frame" + page(p, u), x.copy(p, from, u), 0);
            Check.due("shared", x.shared(u), false);
            Check.due("shared of the page copied", x.shared(from), true);
            Check.due("state", x.state(p, u), 1);
            Check.due("inUse", x.inUse(), 16);
            Check.due("copy to an absent page when full", x.copy(p, from, left), FULL);
            Check.due("copy to the page it now has", x.copy(p, from, u), 0);

            SuperpageReserve y = Setups.made(z -> Setups.shareAllBut(z, u));
            Check.due("copy to an absent page for the last frame" + page(p, u), y.copy(p, from, u), 0);
            dueWords(y, p, u, 1, 2, 3, 4);
            Check.due("state", y.state(p, u), 1);
            Check.due("the other's state", y.state(1 - p, u), 0);
            Check.due("inUse", y.inUse(), 16);
        });
    }

    private static void promise10AbsentPageCopiesZeros() {
        Check.about("Promise 10: with the words of page v as they were before (0 if page v is absent)");
        forEveryPage((p, v) -> {
            int u = (v + 1) % 16;
            SuperpageReserve x = Setups.made(y -> Setups.fillOne(y, p));
            x.unmap(p, v);
            Check.due("copy of an absent page" + page(p, v), x.copy(p, v, u), 0);
            dueWords(x, p, u, 0, 0, 0, 0);
            Check.due("state of the page copied to", x.state(p, u), 1);
            Check.due("state of the page copied", x.state(p, v), 0);
            Check.due("copy of an absent page onto itself", x.copy(p, v, v), 0);
            dueWords(x, p, v, 0, 0, 0, 0);
            Check.due("its state then", x.state(p, v), 1);

            SuperpageReserve shared = Setups.made(y -> Setups.shareAllBut(y, v));
            Check.due("copy of an absent page to a shared one" + page(p, u), shared.copy(p, v, u), 0);
            dueWords(shared, p, u, 0, 0, 0, 0);
            dueWords(shared, 1 - p, u, 1, 2, 3, 4);
        });
    }

    private static void promise10WordsAsTheyWereBefore() {
        Check.about("Promise 10: with the words of page v as they were before");
        forEveryPage((p, v) -> {
            int first = 300 + 4 * v;
            Check.unchanged("copy onto itself" + page(p, v), x -> Setups.fillOne(x, p), x -> x.copy(p, v, v), 0);
            SuperpageReserve x = Setups.made(y -> Setups.fillOne(y, p));
            for (int u = 0; u < 16; u++) {
                Check.due("copy" + page(p, v) + " to page " + u, x.copy(p, v, u), 0);
                dueWords(x, p, u, first, first + 1, first + 2, first + 3);
            }
            dueWords(x, p, v, first, first + 1, first + 2, first + 3);
        });
    }

    private static void promise10ArgumentsFirst() {
        Check.about("Promise 10: Tested first: p, v, u as above.");
        forEveryPage((p, v) -> {
            for (int wrong : Setups.WRONG_PAGES) {
                Check.unchanged("copy of page " + wrong + " to" + page(p, v), Setups::fillMixed, x -> x.copy(p, wrong, v), BAD_ARG);
                Check.unchanged("copy to page " + wrong + " of" + page(p, v), Setups::fillMixed, x -> x.copy(p, v, wrong), BAD_ARG);
                Check.unchanged("copy of page " + wrong + " to itself", Setups::fillMixed, x -> x.copy(p, wrong, wrong), BAD_ARG);
            }
            for (int wrong : Setups.WRONG_PROCESSES) {
                Check.unchanged("copy in process " + wrong, Setups::fillMixed, x -> x.copy(wrong, v, (v + p) % 16), BAD_ARG);
            }
        });
    }

    private static void promise11BothIncluded() {
        Check.about("Promise 11: Makes the pages from to to (both included) of process p absent");
        forEveryPage((p, from) -> {
            for (int to = from; to < 16; to++) {
                SuperpageReserve x = Setups.made(y -> Setups.fillOne(y, p));
                String range = "unmapRange(" + p + ", " + from + ", " + to + ")";
                Check.due(range, x.unmapRange(p, from, to), to - from + 1);
                for (int v = 0; v < 16; v++) {
                    Check.due("state" + page(p, v) + " after " + range, x.state(p, v), v < from || v > to ? 1 : 0);
                }
                Check.due("inUse after " + range, x.inUse(), 16 - (to - from + 1));
            }
        });
    }

    private static void promise11WherePresent() {
        Check.about("Promise 11: where they are present. ... Otherwise the number of pages made absent.");
        for (int p = 0; p < 2; p++) {
            SuperpageReserve x = Setups.made(Setups::mixed);
            SuperpageReserve before = Setups.made(Setups::mixed);
            Check.due("unmapRange of all of process " + p, x.unmapRange(p, 0, 15), 11);
            Check.due("present", x.present(p), 0);
            Check.due("the other's digest", x.digest(1 - p), before.digest(1 - p));
            for (int v = 0; v < 16; v++) {
                Check.due("shared(" + v + ")", x.shared(v), false);
                Check.due("state" + page(1 - p, v), x.state(1 - p, v), before.state(1 - p, v));
            }
            Check.due("inUse", x.inUse(), before.present(1 - p));
            Check.due("unmapRange again", x.unmapRange(p, 0, 15), 0);
        }
    }

    private static void promise11EmptyRange() {
        // The document does not name this case: no page lies between, so none is made absent.
        Check.about("Promise 11: the number of pages made absent");
        forEveryPage((p, from) -> {
            for (int to = 0; to < from; to++) {
                int last = to;
                Check.unchanged("unmapRange(" + p + ", " + from + ", " + to + ")", Setups::fillMixed, x -> x.unmapRange(p, from, last), 0);
            }
        });
    }

    private static void promise11WrongArguments() {
        Check.about("Promise 11: BAD_ARG if p, from or to is out of range.");
        forEveryPage((p, v) -> {
            for (int wrong : Setups.WRONG_PAGES) {
                Check.unchanged("unmapRange from " + wrong + " to" + page(p, v), Setups::fillMixed, x -> x.unmapRange(p, wrong, v), BAD_ARG);
                Check.unchanged("unmapRange to " + wrong + " from" + page(p, v), Setups::fillMixed, x -> x.unmapRange(p, v, wrong), BAD_ARG);
            }
            for (int wrong : Setups.WRONG_PROCESSES) {
                Check.unchanged("unmapRange of process " + wrong, Setups::fillMixed, x -> x.unmapRange(wrong, 0, v), BAD_ARG);
            }
        });
        for (int wrong : Setups.WRONG_PAGES) {
            Check.unchanged("unmapRange from and to " + wrong, Setups::fillMixed, x -> x.unmapRange(0, wrong, wrong), BAD_ARG);
        }
    }

    private static void promise12NoneToAll() {
        Check.about("Promise 12: The number of present pages of process p");
        for (int p = 0; p < 2; p++) {
            SuperpageReserve x = new SuperpageReserve();
            for (int v = 0; v < 16; v++) {
                Check.due("present(" + p + ")", x.present(p), v);
                x.touch(p, 15 - v);
                x.protect(p, 15 - v, v % 2);
            }
            Check.due("present(" + p + ") of all", x.present(p), 16);
            Check.due("present of the other", x.present(1 - p), 0);
            Check.due("present(" + p + ") with shared pages", Setups.made(Setups::fillSharing).present(p), 16);
        }
    }

    private static void promise12WrongProcess() {
        Check.about("Promise 12: BAD_ARG if p is not 0 or 1.");
        for (int p : Setups.WRONG_PROCESSES) {
            Check.unchanged("present(" + p + ")", Setups::fillMixed, x -> x.present(p), BAD_ARG);
        }
    }

    private static void promise13ZeroToSixteen() {
        Check.about("Promise 13: The number of frames in use, 0 to 16.");
        SuperpageReserve x = new SuperpageReserve();
        Check.due("inUse of a new object", x.inUse(), 0);
        for (int i = 0; i < 32; i++) {
            Check.due("touch " + i, x.touch(i % 2, i / 2), i < 16 ? 1 : FULL);
            Check.due("inUse after touch " + i, x.inUse(), Math.min(i + 1, 16));
        }
        x.unmapRange(0, 0, 15);
        Check.due("inUse after process 0 is unmapped", x.inUse(), 8);
        x.unmapRange(1, 0, 15);
        Check.due("inUse after both are unmapped", x.inUse(), 0);

        SuperpageReserve shared = Setups.made(Setups::fillSharing);
        Check.due("inUse with 32 pages present", shared.inUse(), 16);
        for (int i = 0; i < 32; i++) {
            shared.write(i % 2, i / 2, 0, 77);
        }
        Check.due("inUse after refused writes", shared.inUse(), 16);
        for (int i = 0; i < 32; i++) {
            shared.unmap(i % 2, i / 2);
            Check.due("inUse after unmap " + i, shared.inUse(), 16 - (i + 1) / 2);
        }
    }

    private static void promise14Wrapping() {
        Check.about("Promise 14: The sum, wrapping");
        int[] edges = {Integer.MAX_VALUE, Integer.MIN_VALUE, -1, 1 << 30, 0x55555555};
        for (int p = 0; p < 2; p++) {
            for (int word : edges) {
                SuperpageReserve x = new SuperpageReserve();
                BigInteger sum = BigInteger.ZERO;
                for (int i = 0; i < 64; i++) {
                    x.write(p, i / 4, i % 4, word - i);
                    sum = sum.add(BigInteger.valueOf(word - i).multiply(BigInteger.valueOf(i + 1)));
                    Check.due("digest(" + p + ") of " + word + " and down, " + (i + 1) + " words", x.digest(p), sum.intValue());
                }
            }
        }
    }

    private static void promise14PresentPagesOnly() {
        Check.about("Promise 14: over all present pages v of process p");
        forEveryPage((p, v) -> {
            SuperpageReserve x = Setups.made(y -> y.write(p, v, 3, 66));
            Check.due("digest" + page(p, v), x.digest(p), 66 * (4 * v + 4));
            Check.due("the other's digest", x.digest(1 - p), 0);
            x.protect(p, v, 1);
            Check.due("digest of a read-only page", x.digest(p), 66 * (4 * v + 4));
            x.unmap(p, v);
            Check.due("digest after unmap", x.digest(p), 0);
            x.touch(p, v);
            Check.due("digest after touch", x.digest(p), 0);
            x.write(p, v, 0, 66);
            x.unmapRange(p, v, v);
            Check.due("digest after unmapRange", x.digest(p), 0);
            x.write(p, v, 0, 66);
            x.split(1 - p);
            Check.due("digest after the other's split", x.digest(p), 0);
        });
    }

    private static void promise14EveryWord() {
        Check.about("Promise 14: and all words w of word w times (4 v + w + 1)");
        forEveryPage((p, v) -> {
            for (int w = 0; w < 4; w++) {
                SuperpageReserve x = new SuperpageReserve();
                x.write(p, v, w, -3);
                Check.due("digest with only word " + w + page(p, v), x.digest(p), -3 * (4 * v + w + 1));
            }
        });
    }

    private static void promise14WrongProcess() {
        Check.about("Promise 14: 0 if p is not 0 or 1.");
        for (int p : Setups.WRONG_PROCESSES) {
            Check.unchanged("digest(" + p + ")", Setups::fill, x -> x.digest(p), 0);
        }
        Check.due("whether digest(0) of the same object is 0", Setups.made(Setups::fill).digest(0) == 0, false);
        Check.due("whether digest(1) of the same object is 0", Setups.made(Setups::fill).digest(1) == 0, false);
    }

    private static void forEveryPage(PageTest test) {
        for (int p = 0; p < 2; p++) {
            for (int v = 0; v < 16; v++) {
                test.of(p, v);
            }
        }
    }

    private static String page(int p, int v) {
        return " page " + v + " of process " + p;
    }

    private static void dueWords(SuperpageReserve x, int p, int v, int... words) {
        for (int w = 0; w < 4; w++) {
            Check.due("word " + w + page(p, v), x.read(p, v, w), words[w]);
        }
    }

    /** 16 frames in use, 15 of them by shared pages, while page v of process p is absent. */
    private static void fillBeside(SuperpageReserve x, int p, int v) {
        Setups.shareAllBut(x, v);
        x.touch(1 - p, v);
    }
}
