import java.util.Arrays;
import java.util.function.Consumer;

/** What the tests share: they print each answer that is not as due, and end with 1 if there was one. */
final class Check {
    /** Makes a shop, with the same calls each time: nothing is promised of one behind its 512th call. */
    interface Maker {
        CobblerCodes make();
    }

    /** A call whose answer, or whose exception, is looked at. */
    interface Call {
        Object on(CobblerCodes x);
    }

    static final Class<?> INDEX = IndexOutOfBoundsException.class;
    static final Class<?> ARGUMENT = IllegalArgumentException.class;
    static final Class<?> STATE = IllegalStateException.class;

    private static int wrong = 0;

    private Check() {
    }

    static void due(String call, Object got, Object want) {
        if (!got.equals(want)) {
            wrong++;
            if (wrong <= 40) {
                System.out.println(call + " answered " + got + ", due is " + want);
            }
        }
    }

    /** What a call answers, as text: its answer, or the very class that it throws. */
    static String outcome(CobblerCodes x, Call call) {
        try {
            return String.valueOf(call.on(x));
        } catch (RuntimeException e) {
            return "throws." + e.getClass().getSimpleName();
        }
    }

    /** The call throws exactly this class (no subclass, as the machine's own are) and changes nothing. */
    static void dueThrow(Maker maker, String name, Class<?> type, Call call) {
        dueUnchanged(maker, name, x -> due(name, outcome(x, call), "throws." + type.getSimpleName()));
    }

    /** What there is behind these calls is as with a shop that they were never made on. */
    static void dueUnchanged(Maker maker, String name, Consumer<CobblerCodes> calls) {
        CobblerCodes x = maker.make();
        calls.accept(x);
        due("what there is behind " + name, all(x), all(maker.make()));
    }

    /** All that an object tells of itself, by fewer than 400 calls. */
    static String all(CobblerCodes x) {
        StringBuilder text = new StringBuilder();
        text.append(Arrays.toString(counts(x))).append(row(x));
        for (int last = 0; last < 32; last++) {
            for (int what = 0; what < 6; what++) {
                text.append(x.told(last, what)).append(' ');
            }
        }
        for (int what = 0; what < 5; what++) {
            text.append(x.sole(what)).append(' ');
        }
        text.append(x.cheapest()).append(' ').append(x.saved()).append(' ').append(x.mean()).append(' ').append(x.digest());
        return text.append(' ').append(x.would(7, 3, 40)).append(' ').append(x.advise(7, 3, 40)).toString();
    }

    static int[] counts(CobblerCodes x) {
        int[] all = new int[8];
        for (int what = 0; what < 8; what++) {
            all[what] = x.count(what);
        }
        return all;
    }

    /** The row as text: for each place its weight, and behind a colon its last, S for the sole, or its first part. */
    static String row(CobblerCodes x) {
        StringBuilder text = new StringBuilder();
        int places = x.count(1);
        for (int place = 0; place < places; place++) {
            int last = x.node(place, 1);
            text.append(place == 0 ? "" : " ").append(x.node(place, 0)).append(':');
            text.append(last == 32 ? "S" : last >= 0 ? "" + last : "/" + x.node(place, 3));
        }
        return text.toString();
    }

    static CobblerCodes used(int... lasts) {
        CobblerCodes x = new CobblerCodes();
        for (int last : lasts) {
            x.use(last);
        }
        return x;
    }

    static void end() {
        if (wrong != 0) {
            System.out.println(wrong + " answers are not as due");
            System.exit(1);
        }
    }
}
