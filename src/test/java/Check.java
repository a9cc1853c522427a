import java.util.ArrayList;
import java.util.List;
import java.util.function.Consumer;
import java.util.function.ToIntFunction;

/** Counts and prints the answers that are not as due, and ends the test with exit code 1 if there were any. */
final class Check {
    private static int asked = 0;
    private static int wrong = 0;
    private static String sentence = "";

    private Check() {
    }

    /** Names the sentence of the document that the answers from here on belong to. */
    static void about(String words) {
        sentence = "[" + words + "] ";
    }

    static void due(String call, Object got, Object want) {
        asked++;
        if (!want.equals(got)) {
            wrong++;
            System.out.println(sentence + call + " answered " + got + ", due is " + want);
        }
    }

    static boolean allAsDue() {
        return wrong == 0;
    }

    /** A twin that never saw the call stands for "before": an object may take 512 calls only. */
    static void unchanged(String call, Consumer<SuperpageReserve> setup, ToIntFunction<SuperpageReserve> tested, int answer) {
        SuperpageReserve tried = Setups.made(setup);
        due(call, tested.applyAsInt(tried), answer);
        due("everything seen after " + call, seen(tried), seen(Setups.made(setup)));
    }

    /** Everything that can be seen of an object, in 181 calls. */
    static List<Integer> seen(SuperpageReserve x) {
        List<Integer> all = new ArrayList<>();
        for (int p = 0; p < 2; p++) {
            all.add(x.present(p));
            all.add(x.digest(p));
            for (int v = 0; v < 16; v++) {
                all.add(x.state(p, v));
                for (int w = 0; w < 4; w++) {
                    all.add(x.read(p, v, w));
                }
            }
        }
        for (int v = 0; v < 16; v++) {
            all.add(x.shared(v) ? 1 : 0);
        }
        all.add(x.inUse());
        return all;
    }

    static void end() {
        System.out.println((asked - wrong) + " answers as due, " + wrong + " not");
        if (wrong != 0 || asked == 0) {
            System.exit(1);
        }
    }
}
