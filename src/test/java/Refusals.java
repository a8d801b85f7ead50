import java.lang.reflect.Method;
import java.util.Arrays;
import java.util.HashMap;
import java.util.Map;

/**
 * A call with another STATUS than 0 gives NONE, or false, and changes nothing but STATUS. Every call of the face is made with
 * all of the numbers below, on a new object, an ordinary one and a full one: its STATUS must be that of the Oracle, and behind
 * calls that are refused everything that can be told must be as it was.
 */
public final class Refusals {
    private static final Check C = new Check();
    private static final String[] CALLS = {"tray 3", "write 3", "read 2", "pour 5", "land 1", "decades 1", "many 1", "deed 2", "payer 2",
        "near 2", "part 2", "copyTax 1", "step 2", "shrink 2", "year 1", "price 3", "hire 2", "forgive 1", "come 1", "dream 3", "rule 2",
        "plan 2", "planSet 2", "lure 3", "owesIn 1", "fits 2", "fitsAt 3", "sure 2", "ask 2", "rounds 1", "crew 1", "split 2", "help 0",
        "helped 1", "game 3", "moveOf 3", "luck 2", "bears 1", "live 1", "lived 1", "mean 2", "mark 0", "back 0"};
    private static final int[] ONE = {Integer.MIN_VALUE, -1, 0, 1, 2, 3, 4, 5, 6, 7, 8, 9, 10, 19, 20, 21, 30, 31, 40, 41, 60, 61, 99, 100,
        101, 300, 301, 900, 901, 9999, 10000, 1 << 30, Integer.MAX_VALUE};
    private static final int[] TWO = {Integer.MIN_VALUE, -1, 0, 1, 2, 3, 4, 5, 6, 7, 8, 16, 17, 20, 21, 30, 31, 40, 41, 50, 51, 59, 60,
        9980, 9981, 9999, 10000, 1 << 30, Integer.MAX_VALUE};
    private static final int[] THREE = {-1, 0, 1, 2, 3, 4, 5, 7, 9, 10, 20, 21, 60, 61, 99, 100, Integer.MAX_VALUE};
    private static final int[] FIVE = {-1, 0, 1, 3, 4, Integer.MAX_VALUE};
    private static final int REFUSED_AT_ONCE = 60;

    private static final Map<String, Method> METHODS = new HashMap<>();

    private interface Past {
        void make(Both b) throws Exception;
    }

    /** The class and the Oracle side by side, or the class alone. */
    private static final class Both {
        final AlmostTax x = new AlmostTax();
        final Oracle oracle = new Oracle();
        private final boolean alone;
        private int calls;

        Both(boolean alone) {
            this.alone = alone;
        }

        long call(String name, long... a) throws Exception {
            calls++;
            if (!alone) {
                oracle.call(name, a);
            }
            return answer(x, name, a);
        }

        void feed(String text) throws Exception {
            int[] i = Check.intsOf(Check.bytesOf(text));
            for (int k = 0; k < i.length; k += 5) {
                call("feed", i[k], i[k + 1], i[k + 2], i[k + 3], i[k + 4]);
            }
        }
    }

    public static void main(String[] args) throws Exception {
        for (Method m : AlmostTax.class.getDeclaredMethods()) {
            METHODS.put(m.getName(), m);
        }
        tryAll("new", b -> { });
        tryAll("ordinary", Refusals::makeOrdinary);
        tryAll("full", Refusals::makeFull);
        C.finish();
    }

    private static long answer(AlmostTax x, String name, long... a) throws Exception {
        Method m = METHODS.get(name);
        Object[] boxed = new Object[a.length];
        for (int i = 0; i < a.length; i++) {
            if (m.getParameterTypes()[i] == long.class) {
                boxed[i] = a[i];
            } else {
                boxed[i] = (int) a[i];
            }
        }
        Object answer = m.invoke(x, boxed);
        return answer instanceof Boolean ? ((Boolean) answer ? 1 : 0) : ((Number) answer).longValue();
    }

    private static void makeOrdinary(Both b) throws Exception {
        String land = "odds 4;allow 3;deed ring rate 18 hard 3 cost 20;deed sea rate 30 hard 6 cost 60;payer ned house 10 purse 30 wage 5;"
            + "payer oz house 40;payer pia house 12 purse 5 wage 0;near ned ring 2;near ned sea 3;near oz sea 4;near pia sea 1;done pia ring;";
        b.feed(land);
        b.call("land", land.length());
        b.call("mark");
        b.feed("any;year 2;");
        b.call("decades", 11);
        b.call("live", 77);
        b.call("mark");
        b.call("tray", 0, 2, 6);
        b.call("write", 0, 0, 3);
        b.call("write", 0, 1, 12);
        b.call("write", 0, 2, 4);
        b.call("tray", 1, 2, 2);
        b.call("tray", 2, 0, 0);
        b.call("bears", 0);
        b.feed("odds 17;");
        b.call("land", 8);
        b.feed("odds 11;            payer z house 5;");
    }

    private static void makeFull(Both b) throws Exception {
        for (int p = 0; p < 6; p++) {
            b.call("come", 17 * p);
        }
        for (int d = 0; d < 7; d++) {
            b.call("dream", 10 * d, 1 + d, 20);
        }
        for (int p = 0; p < 6; p++) {
            b.call("step", p, 6 - p);
        }
        b.call("step", 0, 0);
        b.call("step", 5, 6);
        b.call("mark");
        b.call("rule", 3, 2);
        b.call("mark");
        b.feed("loop 99;loop 99;year 20;end;end;");
        b.call("decades", 32);
        b.call("live", 9999);
        b.call("live", 0);
        b.call("year", 19);
        b.call("mark");
        for (int t = 0; t < 4; t++) {
            b.call("tray", t, t, 60);
            b.call("write", t, 59, t);
        }
        b.call("write", 1, 2, 128);
        b.call("split", 0, 6);
        b.feed("odds 13;" + " ".repeat(892));
    }

    private static int[] numbers(int parameters) {
        return parameters < 2 ? ONE : parameters == 2 ? TWO : parameters == 3 ? THREE : FIVE;
    }

    private static void tryAll(String state, Past past) throws Exception {
        Both both = new Both(false);
        past.make(both);
        String told = tell(both);
        Both again = again(past);
        int refused = 0;
        for (String one : CALLS) {
            String name = one.split(" ")[0];
            int parameters = Integer.parseInt(one.split(" ")[1]);
            Oracle oracle = oracleOf(past);
            int[] numbers = numbers(parameters);
            long[] a = new long[parameters];
            int ways = (int) Math.pow(numbers.length, parameters);
            for (int way = 0; way < ways; way++) {
                int rest = way;
                for (int i = 0; i < parameters; i++) {
                    a[i] = numbers[rest % numbers.length];
                    rest /= numbers.length;
                }
                if (tryOne(state, oracle, again, past, name, a)) {
                    refused++;
                }
                if (refused == REFUSED_AT_ONCE) {
                    asItWas(state, name + Arrays.toString(a), again, told);
                    again = again(past);
                    refused = 0;
                }
            }
            asItWas(state, name, again, told);
            again = again(past);
            refused = 0;
        }
    }

    private static Both again(Past past) throws Exception {
        Both b = new Both(true);
        past.make(b);
        return b;
    }

    private static Oracle oracleOf(Past past) throws Exception {
        Both b = new Both(false);
        past.make(b);
        return b.oracle;
    }

    /** Whether the call is refused and leaves all; what is not goes to another object. */
    private static boolean tryOne(String state, Oracle oracle, Both again, Past past, String name, long[] a) throws Exception {
        Oracle o = oracle.copy();
        long want = o.call(name, a);
        long status = o.call("status", new long[0]);
        boolean leaves = status != 0 && status != 10;
        AlmostTax x = leaves ? again.x : again(past).x;
        long got = answer(x, name, a);
        String call = state + ": " + name + Arrays.toString(a);
        C.due(call, got, want);
        C.due("status() behind " + call, x.status(), status);
        if (status != 0) {
            boolean yesOrNo = METHODS.get(name).getReturnType() == boolean.class;
            C.due(call + " gives NONE, or false", got, yesOrNo ? 0 : -1);
        }
        again.calls += leaves ? 2 : 0;
        return leaves;
    }

    private static void asItWas(String state, String latest, Both b, String told) throws Exception {
        String now = tell(b);
        if (!now.equals(told)) {
            System.out.println("told\n" + told + "\nnow\n" + now);
        }
        C.due(state + ": all is as it was, to " + latest, now.equals(told), true);
        C.due("no more than 512 calls", b.calls <= 512, true);
    }

    /** Everything that can be told of an object, at last what becomes of it by texts, lives, MARKS. */
    private static String tell(Both b) throws Exception {
        StringBuilder all = new StringBuilder();
        add(all, b, "top");
        add(all, b, "bottom");
        add(all, b, "fault", 0);
        add(all, b, "fault", 1);
        for (int what = 0; what < 5; what++) {
            add(all, b, "lived", what);
        }
        tellLand(all, b);
        for (int t = 0; t < 4; t++) {
            for (int place : new int[] {0, 1, 2, 6, 59}) {
                add(all, b, "read", t, place);
            }
            add(all, b, "write", t, 0, 0x123456789abcdefL);
            add(all, b, "read", t, 0);
        }
        add(all, b, "mean", 5, 3);
        add(all, b, "top");
        add(all, b, "live", 5);
        add(all, b, "many", 4);
        add(all, b, "many", 9);
        add(all, b, "feed", 0, 0, 0, 0, 0);
        add(all, b, "land", 20);
        add(all, b, "many", 2);
        for (int i = 0; i < 3; i++) {
            add(all, b, "back");
            for (int what = 0; what < 10; what++) {
                add(all, b, "many", what);
            }
        }
        return all.toString();
    }

    private static void tellLand(StringBuilder all, Both b) throws Exception {
        long deeds = b.call("many", 0);
        long payers = b.call("many", 1);
        for (int what = 0; what < 10; what++) {
            add(all, b, "many", what);
        }
        for (int d = 0; d < deeds; d++) {
            for (int what = 0; what < 3; what++) {
                add(all, b, "deed", d, what);
            }
        }
        for (int p = 0; p < payers; p++) {
            for (int what = 0; what < 5; what++) {
                add(all, b, "payer", p, what);
            }
            for (int d = 0; d < deeds; d++) {
                add(all, b, "near", p, d);
            }
        }
    }

    private static void add(StringBuilder all, Both b, String name, long... a) throws Exception {
        all.append(name).append(Arrays.toString(a)).append(' ').append(b.call(name, a)).append('\n');
    }
}
