import java.util.List;
import java.util.Random;

/** Whatever the arguments and the state: a call answers, or throws the very classes that the document names. */
public final class MachineNeverThrowsTest {
    private static final int[] FAR = {Integer.MIN_VALUE, Integer.MIN_VALUE + 1, -401, -65, -33, -32, -2, -1, 0, 1, 2, 3, 4,
        5, 6, 7, 8, 29, 30, 31, 32, 33, 40, 41, 63, 64, 65, 66, 128, 400, 401, 1 << 29, 1 << 30, Integer.MAX_VALUE};
    private static final String INDEX = "throws.IndexOutOfBoundsException";
    private static final String ARGUMENT = "throws.IllegalArgumentException";
    private static final String STATE = "throws.IllegalStateException";

    public static void main(String[] args) {
        for (int seed = 0; seed < 400; seed++) {
            Random random = new Random(seed);
            CobblerCodes x = new CobblerCodes();
            for (int k = 0; k < 512; k++) {
                call(random, x, random.nextInt(16), number(random), number(random), number(random));
            }
        }
        Check.end();
    }

    private static int number(Random random) {
        return random.nextInt(4) == 0 ? FAR[random.nextInt(FAR.length)] : random.nextInt(33);
    }

    private static void call(Random random, CobblerCodes x, int which, int a, int b, int c) {
        boolean badRow = a < 0 || a > 31;
        boolean badRest = b < 0 || b > 31 || c < 1 || c > 40;
        String row = badRow ? INDEX : badRest ? ARGUMENT : "";
        switch (which) {
            case 0: due("use", badRow ? INDEX : "", () -> x.use(a)); break;
            case 1: due("useAll", row, () -> x.useAll(a, b, c)); break;
            case 2: due("setLimit", a < 4 || a > 400 ? ARGUMENT : "", () -> x.setLimit(a)); break;
            case 3: due("wear", x.count(0) == 0 ? STATE : "", () -> x.wear()); break;
            case 4: due("told", badRow || b < 0 || b > 5 ? INDEX : "", () -> x.told(a, b)); break;
            case 5: due("sole", a < 0 || a > 4 ? INDEX : "", () -> x.sole(a)); break;
            case 6: due("node", a < 0 || a >= x.count(1) || b < 0 || b > 3 ? INDEX : "", () -> x.node(a, b)); break;
            case 7: due("count", a < 0 || a > 7 ? INDEX : "", () -> x.count(a)); break;
            case 8: due("read", b < 1 || b > 30 || a < 0 || a >> b != 0 ? ARGUMENT : "", () -> x.read(a, b)); break;
            case 9: due("would", row, () -> x.would(a, b, c)); break;
            case 10: due("advise", row, () -> x.advise(a, b, c)); break;
            case 11: due("cheapest", "", () -> x.cheapest()); break;
            case 12: due("saved", "", () -> x.saved()); break;
            case 13: due("mean", "", () -> x.mean()); break;
            case 14: due("digest", "", () -> x.digest()); break;
            default: due("use", "", () -> x.use(random.nextInt(32)));
        }
    }

    private static void due(String name, String throwing, Check.Call call) {
        String outcome = Check.outcome(call);
        Check.due(name + " throws", List.of(INDEX, ARGUMENT, STATE).contains(outcome) ? outcome : number(outcome), throwing);
    }

    private static String number(String outcome) {
        return outcome.startsWith("throws.") ? "the machine's " + outcome : "";
    }
}
