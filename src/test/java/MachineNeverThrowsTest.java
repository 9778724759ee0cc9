import java.util.List;
import java.util.Random;

/** Whatever the arguments and the state: a call answers, or throws the very classes that the document names. */
public final class MachineNeverThrowsTest {
    private static final int[] FAR = {Integer.MIN_VALUE, Integer.MIN_VALUE + 1, -401, -65, -33, -32, -2, -1, 0, 1, 2, 3, 4,
        5, 6, 7, 8, 29, 30, 31, 32, 33, 40, 41, 63, 64, 65, 66, 128, 400, 401, 1 << 29, 1 << 30, Integer.MAX_VALUE};
    private static final String INDEX = "throws.IndexOutOfBoundsException";
    private static final String ARGUMENT = "throws.IllegalArgumentException";
    private static final String STATE = "throws.IllegalStateException";

    public static void main(String[] args) {
        for (int seed = 0; seed < 800; seed++) {
            Random random = new Random(seed);
            CobblerCodes x = new CobblerCodes();
            // Two calls each, as some ask count() first, make the 512 that are promised.
            for (int k = 0; k < 256; k++) {
                call(random, x, random.nextInt(16), number(random), number(random), number(random));
            }
        }
        Check.end();
    }

    private static int number(Random random) {
        return random.nextInt(4) == 0 ? FAR[random.nextInt(FAR.length)] : random.nextInt(33);
    }

    private static void call(Random random, CobblerCodes x, int which, int a, int b, int c) {
        boolean badRow = a < 0 || a > 31;
        boolean badRest = b < 0 || b > 31 || c < 1 || c > 40;
        String row = badRow ? INDEX : badRest ? ARGUMENT : "";
        switch (which) {
            case 0: due(x, "use", badRow ? INDEX : "", y -> y.use(a)); break;
            case 1: due(x, "useAll", row, y -> y.useAll(a, b, c)); break;
            case 2: due(x, "setLimit", a < 4 || a > 400 ? ARGUMENT : "", y -> y.setLimit(a)); break;
            case 3: due(x, "wear", x.count(0) == 0 ? STATE : "", y -> y.wear()); break;
            case 4: due(x, "told", badRow || b < 0 || b > 5 ? INDEX : "", y -> y.told(a, b)); break;
            case 5: due(x, "sole", a < 0 || a > 4 ? INDEX : "", y -> y.sole(a)); break;
            case 6: due(x, "node", a < 0 || a >= x.count(1) || b < 0 || b > 3 ? INDEX : "", y -> y.node(a, b)); break;
            case 7: due(x, "count", a < 0 || a > 7 ? INDEX : "", y -> y.count(a)); break;
            case 8: due(x, "read", b < 1 || b > 30 || a < 0 || a >> b != 0 ? ARGUMENT : "", y -> y.read(a, b)); break;
            case 9: due(x, "would", row, y -> y.would(a, b, c)); break;
            case 10: due(x, "advise", row, y -> y.advise(a, b, c)); break;
            case 11: due(x, "cheapest", "", y -> y.cheapest()); break;
            case 12: due(x, "saved", "", y -> y.saved()); break;
            case 13: due(x, "mean", "", y -> y.mean()); break;
            case 14: due(x, "digest", "", y -> y.digest()); break;
            default: due(x, "use", "", y -> y.use(random.nextInt(32)));
        }
    }

    private static void due(CobblerCodes x, String name, String throwing, Check.Call call) {
        String outcome = Check.outcome(x, call);
        Check.due(name + " throws", List.of(INDEX, ARGUMENT, STATE).contains(outcome) ? outcome : number(outcome), throwing);
    }

    private static String number(String outcome) {
        return outcome.startsWith("throws.") ? "the machine's " + outcome : "";
    }
}
