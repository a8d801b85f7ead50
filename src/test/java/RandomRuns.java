import java.lang.reflect.Method;
import java.util.Arrays;
import java.util.HashMap;
import java.util.Map;
import java.util.Random;

/** Random runs of calls, valid and not, whose every answer and status must be that of the Oracle. */
public final class RandomRuns {
    private static final String[] KINDS = {"tray 3", "write 3", "read 2", "pour 5", "fault 1", "many 1", "deed 2", "payer 2",
        "near 2", "part 2", "copyTax 1", "step 2", "step 2", "step 2", "shrink 2", "year 1", "price 3", "hire 2", "forgive 1",
        "come 1", "dream 3", "rule 2", "plan 2", "planSet 2", "lure 3", "owesIn 1", "fits 2", "fitsAt 3", "sure 2", "ask 2",
        "rounds 1", "crew 1", "split 2", "help 0", "helped 1", "game 3", "moveOf 3", "luck 2", "bears 1", "live 1", "lived 1",
        "mean 2", "mark 0", "back 0", "top 0", "bottom 0", "LAND", "DECADES", "RECEIPTS"};
    private static final int[] ODD_NUMBERS = {Integer.MIN_VALUE, Integer.MAX_VALUE, -1, -2, 1 << 30, 61, 100, 1000, 10000};

    private static final Map<String, Method> METHODS = new HashMap<>();
    private static final Check CHECK = new Check();
    private static int shown = 0;

    private final Random random;
    private final AlmostTax x = new AlmostTax();
    private final Oracle oracle = new Oracle();
    private final StringBuilder told = new StringBuilder();
    private String[] payers = {};
    private String[] deeds = {};

    private RandomRuns(long seed) {
        random = new Random(seed);
    }

    public static void main(String[] args) throws Exception {
        for (Method m : AlmostTax.class.getDeclaredMethods()) {
            METHODS.put(m.getName(), m);
        }
        int runs = args.length > 0 ? Integer.parseInt(args[0]) : 250;
        long first = args.length > 1 ? Long.parseLong(args[1]) : 1;
        for (long seed = first; seed < first + runs && shown < 5; seed++) {
            new RandomRuns(seed).run();
        }
        CHECK.finish();
    }

    private void run() throws Exception {
        land();
        if (random.nextInt(10) == 0) {
            growOld();
        }
        for (int i = 0; i < 300 && shown < 5; i++) {
            String kind = KINDS[random.nextInt(KINDS.length)];
            switch (kind) {
                case "LAND":
                    if (random.nextInt(3) == 0) {
                        land();
                    }
                    break;
                case "DECADES":
                    decades();
                    break;
                case "RECEIPTS":
                    receipts();
                    break;
                default:
                    String[] parts = kind.split(" ");
                    call(parts[0], arguments(parts[0], Integer.parseInt(parts[1])));
                    break;
            }
        }
    }

    /** Near the last year, so that years can be beyond it. */
    private void growOld() throws Exception {
        read("decades", "loop 99; loop 99; year 20; end; end;");
        call("live", 1);
        call("live", 2);
        call("lived", 0);
    }

    private void call(String name, long... a) throws Exception {
        Method m = METHODS.get(name);
        Object[] boxed = new Object[a.length];
        for (int i = 0; i < a.length; i++) {
            if (m.getParameterTypes()[i] == long.class) {
                boxed[i] = a[i];
            } else {
                boxed[i] = (int) a[i];
            }
        }
        Object answer = m.invoke(x, boxed);
        long got = answer instanceof Boolean ? ((Boolean) answer ? 1 : 0) : ((Number) answer).longValue();
        long want = oracle.call(name, a);
        String call = name + Arrays.toString(a);
        told.append(call).append(" ").append(want).append('\n');
        same(call, got, want);
        same("status() behind " + call, x.status(), oracle.call("status", new long[0]));
    }

    private void same(String call, long got, long want) {
        CHECK.due(call, got, want);
        if (got != want) {
            shown++;
            System.out.println("in the run:\n" + told);
        }
    }

    private int upTo(int most) {
        return random.nextInt(most + 1);
    }

    /** Mostly within bounds, at times just beyond, at times anything. */
    private int number(int least, int most) {
        int how = random.nextInt(40);
        if (how == 0) {
            return ODD_NUMBERS[random.nextInt(ODD_NUMBERS.length)];
        }
        if (how == 1) {
            return least - 1;
        }
        if (how == 2) {
            return most + 1;
        }
        return least + upTo(most - least);
    }

    /** Asked of both, so that both have the same status. */
    private int manyOf(int what) {
        oracle.call("many", new long[] {what});
        return x.many(what);
    }

    private int aPayer() {
        return number(0, Math.max(0, manyOf(1) - 1));
    }

    private int aDeed() {
        return number(0, Math.max(0, manyOf(0) - 1));
    }

    private long[] arguments(String name, int count) {
        int p = aPayer();
        int q = aPayer();
        int d = aDeed();
        switch (name) {
            case "tray": return new long[] {number(0, 3), number(0, 3), number(0, random.nextBoolean() ? 8 : 60)};
            case "write": return new long[] {number(0, 3), number(0, 8), random.nextInt(3) == 0 ? random.nextLong() : upTo(200)};
            case "read": return new long[] {number(0, 3), number(0, 8)};
            case "pour": return new long[] {number(0, 3), number(0, 6), number(0, 3), number(0, 6), number(0, 5)};
            case "fault": return new long[] {number(0, 1)};
            case "many": return new long[] {number(0, 9)};
            case "deed": return new long[] {d, number(0, 5)};
            case "payer": return new long[] {p, number(0, 7)};
            case "copyTax": return new long[] {number(0, 3)};
            case "year": return new long[] {number(1, random.nextInt(3) == 0 ? 99 : 5)};
            case "price": return new long[] {d, number(0, 2), number(0, random.nextBoolean() ? 60 : 99)};
            case "hire": return new long[] {p, number(0, 50)};
            case "come": return new long[] {number(0, 99)};
            case "dream": return new long[] {number(0, 60), number(1, 9), number(0, 99)};
            case "rule": return new long[] {number(2, 3), number(0, random.nextBoolean() ? 16 : 40)};
            case "plan":
            case "planSet": return new long[] {p, number(1, 20)};
            case "lure": return new long[] {p, d, number(1, 20)};
            case "fits":
            case "sure":
            case "ask": return new long[] {number(0, 3), number(0, 3)};
            case "fitsAt": return new long[] {number(0, 3), number(0, 2), number(0, 9)};
            case "rounds": return new long[] {number(1, 6)};
            case "crew": return new long[] {number(0, 99)};
            case "game": return new long[] {p, q, number(0, 4)};
            case "moveOf": return new long[] {p, q, number(1, 4)};
            case "luck": return new long[] {p, number(0, 7)};
            case "live": return new long[] {number(0, 9999)};
            case "lived": return new long[] {number(0, 4)};
            case "mean": return new long[] {number(0, 9999), number(1, 20)};
            case "forgive":
            case "owesIn":
            case "helped":
            case "bears": return new long[] {p};
            default: return count == 0 ? new long[0] : new long[] {p, d};
        }
    }

    private void receipts() throws Exception {
        int sets = 1 << manyOf(0);
        int tray = upTo(3);
        call("tray", tray, 1 + upTo(2), 2 * (1 + upTo(2)));
        int truth = random.nextInt(sets);
        for (int k = 0; k < 2; k++) {
            int asked = random.nextInt(sets);
            int sum = 0;
            for (int d = 0; 1 << d < sets; d++) {
                sum += ((asked & truth) >> d & 1) == 1 ? x.deed(d, 3) : 0;
            }
            manyOf(0);
            call("write", tray, 2 * k, asked);
            call("write", tray, 2 * k + 1, random.nextInt(8) == 0 ? sum + 1 : sum);
        }
        call("fits", tray, 1);
        call("sure", tray, 1);
        call("ask", tray, 1);
        call("fits", tray, 2);
        call("ask", tray, 2);
        call("ask", tray, 0);
    }

    private void feed(String text) throws Exception {
        int[] i = Check.intsOf(Check.bytesOf(text));
        for (int k = 0; k < i.length; k += 5) {
            call("feed", i[k], i[k + 1], i[k + 2], i[k + 3], i[k + 4]);
        }
        told.append("text: ").append(text).append('\n');
    }

    private void read(String name, String text) throws Exception {
        feed(text);
        int most = name.equals("land") ? 900 : 300;
        if (random.nextInt(20) == 0) {
            call(name, number(0, text.length() + 30));
        }
        call(name, Math.min(text.length(), most));
        call("fault", 0);
        call("fault", 1);
    }

    private void land() throws Exception {
        String[] oldDeeds = deeds;
        String[] oldPayers = payers;
        String[] names = names();
        int d = upTo(random.nextInt(10) == 0 ? 8 : 7);
        int p = upTo(random.nextInt(10) == 0 ? 7 : 6);
        deeds = Arrays.copyOfRange(names, 0, d);
        payers = Arrays.copyOfRange(names, d, d + p);
        String text = landText();
        for (int i = 0; i < 3 && random.nextInt(3) == 0; i++) {
            text = spoil(text);
        }
        read("land", text.substring(0, Math.min(900, text.length())));
        if (x.fault(0) != 0) {
            deeds = oldDeeds;
            payers = oldPayers;
        }
    }

    private String[] names() {
        String[] names = new String[16];
        for (int i = 0; i < names.length; i++) {
            StringBuilder name = new StringBuilder().append((char) ('a' + i));
            for (int k = upTo(2); k > 0; k--) {
                name.append((char) ('a' + random.nextInt(26)));
            }
            names[i] = name.toString();
        }
        names[random.nextInt(16)] = "eightlet";
        return names;
    }

    private String landText() {
        StringBuilder b = new StringBuilder();
        if (random.nextBoolean()) {
            b.append("odds ").append(upTo(16)).append(";");
        }
        int[] hard = new int[deeds.length];
        for (int i = 0; i < deeds.length; i++) {
            hard[i] = 1 + upTo(random.nextBoolean() ? 3 : 8);
            b.append("deed ").append(deeds[i]).append(" rate ").append(upTo(60)).append(" hard ").append(hard[i]);
            b.append(" cost ").append(upTo(random.nextBoolean() ? 15 : 99)).append(";\n");
        }
        for (String name : payers) {
            b.append("payer ").append(name).append(" house ").append(upTo(99));
            b.append(random.nextBoolean() ? " purse " + upTo(random.nextBoolean() ? 60 : 999) : "");
            b.append(random.nextBoolean() ? " wage " + upTo(50) : "").append("; ");
        }
        if (random.nextBoolean()) {
            b.append("allow ").append(upTo(40)).append(" ;");
        }
        int busy = random.nextInt(4);
        for (String name : payers) {
            for (int i = 0; i < deeds.length; i++) {
                int how = random.nextInt(6);
                if (how == 0 && busy > 0) {
                    b.append("done ").append(name).append(' ').append(deeds[i]).append(";");
                } else if (how <= busy + 1 && hard[i] > 1) {
                    b.append("near ").append(name).append(' ').append(deeds[i]).append(' ').append(upTo(hard[i] - 1)).append(";");
                }
            }
        }
        if (random.nextInt(8) == 0) {
            b.append(random.nextBoolean() ? "odds 3;" : "allow 3;").append(b.substring(Math.max(0, b.length() - 40)));
        }
        return b.toString();
    }

    private String spoil(String text) {
        if (text.isEmpty()) {
            return ";";
        }
        int at = random.nextInt(text.length());
        String[] bits = {"", " ", ";", "x", "9", "12345", "!", "odds ", "near", "deed ", "end;", "<", "A", "\u00e9", "0", "stop;",
            "loop 2;", "ninelette", "\n", "done", "wage 3", "any;", "when "};
        String bit = bits[random.nextInt(bits.length)];
        int cut = random.nextBoolean() ? at : Math.min(text.length(), at + 1 + upTo(4));
        return text.substring(0, at) + bit + text.substring(cut);
    }

    private String payerName() {
        return payers.length == 0 || random.nextInt(60) == 0 ? "zz" : payers[random.nextInt(payers.length)];
    }

    private String deedName() {
        return deeds.length == 0 || random.nextInt(60) == 0 ? "zz" : deeds[random.nextInt(deeds.length)];
    }

    private void decades() throws Exception {
        StringBuilder b = new StringBuilder();
        for (int many = random.nextInt(6) == 0 ? 27 + upTo(4) : 0; many > 0; many--) {
            b.append(random.nextInt(9) == 0 ? "year 20;" : "any;");
        }
        steps(b, 0, 3 + upTo(8));
        String text = b.toString();
        if (random.nextInt(3) == 0) {
            text = spoil(text);
        }
        read("decades", text.substring(0, Math.min(330, text.length())));
        if (x.fault(0) == 0) {
            call("live", upTo(9999));
            for (int k = 0; k < 5; k++) {
                call("lived", k);
            }
            call("mean", upTo(9980), 1 + upTo(5));
            call("top");
            call("bottom");
        }
    }

    private void steps(StringBuilder b, int depth, int count) {
        boolean named = payers.length > 0 && deeds.length > 0;
        for (int i = 0; i < count; i++) {
            int how = random.nextInt(named ? 12 : 4);
            if (how == 0) {
                b.append("year ").append(1 + upTo(random.nextInt(4) == 0 ? 19 : 2)).append(";");
            } else if (how == 1) {
                b.append("any;");
            } else if (how == 2 && depth < 4 && random.nextInt(8) > depth * 2) {
                b.append("loop ").append(1 + upTo(random.nextInt(3) == 0 ? 98 : 3)).append("; ");
                steps(b, depth + 1, upTo(3));
                b.append("end; ");
            } else if (how == 3) {
                b.append(random.nextInt(8) == 0 ? "stop;" : "any;");
            } else if (how == 4) {
                b.append("rate ").append(deedName()).append(' ').append(upTo(60)).append(";");
            } else if (how == 5) {
                b.append("shrink ").append(payerName()).append(' ').append(deedName()).append(";");
            } else if (how < 9 && depth < 4 && random.nextInt(8) > depth * 2) {
                b.append("when ").append(test()).append(';');
                steps(b, depth + 1, upTo(3));
                b.append("end ;");
            } else if (named) {
                b.append("step ").append(payerName()).append(' ').append(deedName()).append(";");
            }
        }
    }

    private String test() {
        String sign = "<>=".substring(random.nextInt(3)).substring(0, 1);
        switch (random.nextInt(4)) {
            case 0: return "done " + payerName() + " " + deedName();
            case 1: return "near " + payerName() + " " + deedName() + sign + upTo(9);
            case 2: return "purse " + payerName() + sign + " " + upTo(100);
            default: return "owes " + payerName();
        }
    }
}
