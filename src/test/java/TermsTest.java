import java.util.Arrays;
import java.util.List;
import java.util.function.Consumer;
import java.util.function.ToIntFunction;

/** One method for each sentence of "Terms" that names a boundary case. */
public final class TermsTest {
    private static final int BAD_ARG = -1;
    private static final int FULL = -2;
    private static final int ABSENT = -3;
    private static final int READ_ONLY = -4;

    private static final int[] SOME_PROCESSES = joined(new int[] {0, 1}, Setups.WRONG_PROCESSES);
    // In the mixed setups: own, shared and read-only, read-only on one side, absent in one, absent in both.
    private static final int[] SOME_PAGES = joined(new int[] {0, 1, 5, 6, 9, 13, 15}, Setups.WRONG_PAGES);
    private static final int[] SOME_WORDS = joined(new int[] {0, 3}, Setups.WRONG_WORDS);
    private static final int[] NO_THIRD = {0};

    /** A call with up to three arguments that have a range; the others that it is given go unused. */
    private interface Call {
        int on(SuperpageReserve x, int a, int b, int c);
    }

    public static void main(String[] args) {
        firstAndLastOfEachRange();
        sharedUntilWrittenOrAbsent();
        sharedThroughAllElse();
        framesInUse();
        argumentsTestedFirst();
        noCallThrows();
        refusedCallChangesNothing();
        Check.end();
    }

    private static void firstAndLastOfEachRange() {
        Check.about("Terms: PROCESSES 0 and 1. Each has the virtual pages 0 to 15. ... four words 0 to 3 (ints)");
        for (int p = 0; p < 2; p++) {
            SuperpageReserve x = new SuperpageReserve();
            for (int i = 0; i < 64; i++) {
                Check.due("write(" + p + ", " + i / 4 + ", " + i % 4 + ", ..)", x.write(p, i / 4, i % 4, 900 + i), 0);
            }
            for (int i = 0; i < 64; i++) {
                Check.due("read(" + p + ", " + i / 4 + ", " + i % 4 + ")", x.read(p, i / 4, i % 4), 900 + i);
            }
            for (int word : new int[] {Integer.MIN_VALUE, Integer.MAX_VALUE, -1, 0}) {
                x.write(p, 15, 3, word);
                Check.due("read of " + word, x.read(p, 15, 3), word);
            }
        }
    }

    private static void sharedUntilWrittenOrAbsent() {
        Check.about("Terms: one and the same for the count of frames, until one of them is written or made absent.");
        for (int i = 0; i < 32; i++) {
            int p = i % 2;
            int v = i / 2;
            int beside = (v + 1) % 16;
            int left = (v + 2) % 16;
            sharingEnds("write", v, left, x -> x.write(p, v, 0, 7), 16);
            sharingEnds("write of the same word", v, left, x -> x.write(p, v, 0, 1), 16);
            sharingEnds("copy", v, left, x -> x.copy(p, beside, v), 16);
            sharingEnds("unmap", v, left, x -> x.unmap(p, v), 15);
            sharingEnds("unmapRange", v, left, x -> x.unmapRange(p, v, v) - 1, 15);
        }
    }

    private static void sharingEnds(String how, int v, int left, ToIntFunction<SuperpageReserve> call, int inUse) {
        SuperpageReserve x = Setups.made(y -> Setups.shareAllBut(y, left));
        Check.due("inUse of 15 shared pages", x.inUse(), 15);
        Check.due(how + " of shared page " + v, call.applyAsInt(x), 0);
        Check.due("inUse after " + how, x.inUse(), inUse);
        for (int u = 0; u < 16; u++) {
            Check.due("shared(" + u + ") after " + how + " of page " + v, x.shared(u), u != v && u != left);
        }
    }

    private static void sharedThroughAllElse() {
        Check.about("Terms: until one of them is written or made absent.");
        for (int i = 0; i < 32; i++) {
            int p = i % 2;
            int v = i / 2;
            SuperpageReserve x = Setups.made(Setups::fillSharing);
            x.touch(p, v);
            x.read(p, v, 0);
            x.protect(p, v, 1);
            Check.due("shared after touch, read and protect", x.shared(v), true);
            x.write(p, v, 0, 7);
            x.copy(p, v, v);
            x.protect(p, v, 0);
            x.write(p, v, 0, 7);
            x.copy(p, (v + 1) % 16, v);
            x.copy(p, v, (v + 1) % 16);
            Check.due("shared after refused writes and copies", x.shared(v), true);
            x.unmapRange(p, v, v - 1);
            x.unmap(p, 16 + v);
            Check.due("shared after an empty range and a refused unmap", x.shared(v), true);
            x.split(p);
            Check.due("shared after another split", x.shared(v), true);
            Check.due("inUse after all of these", x.inUse(), 16);
        }
    }

    private static void framesInUse() {
        Check.about("Terms: the number of present pages, where two shared pages count once.");
        for (int shared = 0; shared <= 16; shared++) {
            SuperpageReserve x = new SuperpageReserve();
            Setups.touchFirst(x, 1, shared);
            x.split(1);
            Check.due("inUse with " + shared + " pages shared", x.inUse(), shared);
            Check.due("present with " + shared + " pages shared", x.present(0) + x.present(1), 2 * shared);
            for (int own = 1; own <= 16 - shared; own++) {
                int page = shared + own - 1;
                Check.due("touch of own page " + page, x.touch(own % 2, page), 1);
                Check.due("inUse with " + shared + " shared and " + own + " own", x.inUse(), shared + own);
            }
        }
        for (int shared = 0; shared <= 16; shared++) {
            SuperpageReserve x = new SuperpageReserve();
            Setups.touchFirst(x, 0, shared);
            x.split(0);
            for (int ended = 1; ended <= shared; ended++) {
                boolean room = shared + ended <= 16;
                Check.due("write that ends sharing " + ended + " of " + shared, x.write(1, ended - 1, 0, 1), room ? 0 : FULL);
                Check.due("inUse then", x.inUse(), room ? shared + ended : 16);
            }
        }
    }

    private static void argumentsTestedFirst() {
        Check.about("Terms: In all calls the arguments are tested first: p not 0 or 1, v not 0 to 15, w not 0 to 3 answers BAD_ARG.");
        Setups.all().forEach((name, setup) -> {
            wrongArguments(name + ": touch", setup, NO_THIRD, 0, (x, p, v, c) -> x.touch(p, v));
            wrongArguments(name + ": unmap", setup, NO_THIRD, 0, (x, p, v, c) -> x.unmap(p, v));
            wrongArguments(name + ": protect on", setup, NO_THIRD, 0, (x, p, v, c) -> x.protect(p, v, 1));
            wrongArguments(name + ": protect off", setup, NO_THIRD, 0, (x, p, v, c) -> x.protect(p, v, 0));
            wrongArguments(name + ": state", setup, NO_THIRD, 0, (x, p, v, c) -> x.state(p, v));
            wrongArguments(name + ": write", setup, SOME_WORDS, 3, (x, p, v, w) -> x.write(p, v, w, 77));
            wrongArguments(name + ": copy", setup, SOME_PAGES, 15, SuperpageReserve::copy);
            wrongArguments(name + ": unmapRange", setup, SOME_PAGES, 15, SuperpageReserve::unmapRange);
            for (int p : Setups.WRONG_PROCESSES) {
                Check.unchanged(name + ": split(" + p + ")", setup, x -> x.split(p), BAD_ARG);
                Check.unchanged(name + ": present(" + p + ")", setup, x -> x.present(p), BAD_ARG);
            }
        });
    }

    /** Every mix of arguments in which at least one is out of its range; the third is in range from 0 to lastThird. */
    private static void wrongArguments(String name, Consumer<SuperpageReserve> setup, int[] thirds, int lastThird, Call call) {
        for (int p : SOME_PROCESSES) {
            for (int v : SOME_PAGES) {
                for (int c : thirds) {
                    boolean inRange = isWithin(p, 1) && isWithin(v, 15) && isWithin(c, lastThird);
                    if (!inRange) {
                        String told = name + " with " + p + ", " + v + ", " + c;
                        Check.unchanged(told, setup, x -> call.on(x, p, v, c), BAD_ARG);
                    }
                }
            }
        }
    }

    private static void noCallThrows() {
        Check.about("Terms: No call ever throws.");
        List<Call> calls = List.of(
                (x, a, b, c) -> x.touch(a, b),
                (x, a, b, c) -> x.write(a, b, c, a),
                SuperpageReserve::read,
                (x, a, b, c) -> x.unmap(a, b),
                SuperpageReserve::protect,
                (x, a, b, c) -> x.state(a, b),
                (x, a, b, c) -> x.shared(a) ? 1 : 0,
                (x, a, b, c) -> x.split(a),
                SuperpageReserve::copy,
                SuperpageReserve::unmapRange,
                (x, a, b, c) -> x.present(a),
                (x, a, b, c) -> x.inUse(),
                (x, a, b, c) -> x.digest(a));
        int[] numbers = joined(SOME_PAGES, SOME_WORDS, SOME_PROCESSES);
        Setups.all().forEach((name, setup) -> {
            for (int i = 0; i < calls.size(); i++) {
                Check.due(name + ": call " + i, whatThrows(Setups.made(setup), calls.get(i), numbers), "nothing thrown");
            }
        });
    }

    /** All on one object, far beyond its 512 calls: what they answer is free there, but none may throw. */
    private static String whatThrows(SuperpageReserve x, Call call, int[] numbers) {
        for (int a : numbers) {
            for (int b : numbers) {
                for (int c : numbers) {
                    try {
                        call.on(x, a, b, c);
                    } catch (RuntimeException thrown) {
                        return thrown + " with " + a + ", " + b + ", " + c;
                    }
                }
            }
        }
        return "nothing thrown";
    }

    private static void refusedCallChangesNothing() {
        Check.about("Terms: A refused call answers the code named and changes nothing.");
        Setups.all().forEach((name, setup) -> {
            for (int i = 0; i < 32; i++) {
                int p = i % 2;
                int v = i / 2;
                SuperpageReserve before = Setups.made(setup);
                String page = " of page " + v + " of process " + p;
                int whenAbsent = before.state(p, v) == 0 ? ABSENT : 0;
                refusedOrDone(name + ": touch" + page, setup, x -> x.touch(p, v), touchCode(before, p, v));
                refusedOrDone(name + ": write" + page, setup, x -> x.write(p, v, 3, 77), writeCode(before, p, v));
                refusedOrDone(name + ": unmap" + page, setup, x -> x.unmap(p, v), whenAbsent);
                refusedOrDone(name + ": protect on" + page, setup, x -> x.protect(p, v, 1), whenAbsent);
                refusedOrDone(name + ": protect off" + page, setup, x -> x.protect(p, v, 0), whenAbsent);
                for (int from = 0; from < 16; from++) {
                    int source = from;
                    refusedOrDone(name + ": copy from " + from + page, setup, x -> x.copy(p, source, v), writeCode(before, p, v));
                }
            }
        });
    }

    private static void refusedOrDone(String told, Consumer<SuperpageReserve> setup, ToIntFunction<SuperpageReserve> call, int code) {
        if (code < 0) {
            Check.unchanged(told, setup, call, code);
        } else {
            Check.due("whether it is refused: " + told, call.applyAsInt(Setups.made(setup)) < 0, false);
        }
    }

    private static int touchCode(SuperpageReserve before, int p, int v) {
        return before.state(p, v) == 0 && before.inUse() == 16 ? FULL : 0;
    }

    private static int writeCode(SuperpageReserve before, int p, int v) {
        if (before.state(p, v) == 2) {
            return READ_ONLY;
        }
        return before.shared(v) && before.inUse() == 16 ? FULL : touchCode(before, p, v);
    }

    private static boolean isWithin(int number, int last) {
        return number >= 0 && number <= last;
    }

    private static int[] joined(int[]... parts) {
        return Arrays.stream(parts).flatMapToInt(Arrays::stream).distinct().toArray();
    }
}
