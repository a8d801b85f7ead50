import java.math.BigInteger;
import java.util.ArrayList;
import java.util.Arrays;
import java.util.HashMap;
import java.util.HashSet;
import java.util.List;
import java.util.Map;
import java.util.Set;
import java.util.TreeMap;
import java.util.regex.Matcher;
import java.util.regex.Pattern;

/**
 * The document once more, written without regard for speed or room and in other ways than the class
 * (trees, regular expressions, trying all), so that random runs of both can be held against each other.
 */
final class Oracle {
    private static final Set<String> RESERVED = Set.of("odds", "allow", "deed", "rate", "hard", "cost", "payer", "house",
        "purse", "wage", "near", "done", "step", "shrink", "year", "any", "when", "owes", "loop", "end", "stop");

    private static final class Deed {
        String name = "";
        int rate;
        int hard;
        int cost;
    }

    private static final class Payer {
        String name = "";
        int house;
        int purse = 50;
        int wage = 10;
        int paid;
        int owes;
        Map<Integer, Integer> near = new TreeMap<>();
        Set<Integer> done = new HashSet<>();
    }

    private static final class Node {
        String word;
        String test;
        int payer;
        int deed;
        String compare;
        int number;
        List<Node> inside = new ArrayList<>();
    }

    private static final class State {
        int odds = 8;
        int allowance = 0;
        int year = 0;
        List<Deed> deeds = new ArrayList<>();
        List<Payer> payers = new ArrayList<>();
        List<Node> decades = null;

        State copy() {
            State s = new State();
            s.odds = odds;
            s.allowance = allowance;
            s.year = year;
            s.decades = decades;
            for (Deed d : deeds) {
                Deed e = new Deed();
                e.name = d.name;
                e.rate = d.rate;
                e.hard = d.hard;
                e.cost = d.cost;
                s.deeds.add(e);
            }
            for (Payer p : payers) {
                Payer q = new Payer();
                q.name = p.name;
                q.house = p.house;
                q.purse = p.purse;
                q.wage = p.wage;
                q.paid = p.paid;
                q.owes = p.owes;
                q.near.putAll(p.near);
                q.done.addAll(p.done);
                s.payers.add(q);
            }
            return s;
        }

        int near(int p, int d) {
            Payer q = payers.get(p);
            return q.done.contains(d) ? deeds.get(d).hard : q.near.getOrDefault(d, 0);
        }

        boolean done(int p, int d) {
            return payers.get(p).done.contains(d);
        }

        int part(int p, int d) {
            if (done(p, d)) {
                return 0;
            }
            Deed e = deeds.get(d);
            return (int) Math.floor((double) (e.rate * near(p, d)) / e.hard + 1e-9);
        }

        int tax(int p) {
            int all = -allowance;
            for (int d = 0; d < deeds.size(); d++) {
                all += part(p, d);
            }
            return all < 0 ? 0 : all;
        }

        boolean step(int p, int d) {
            if (done(p, d)) {
                return false;
            }
            Deed e = deeds.get(d);
            Payer q = payers.get(p);
            int n = near(p, d) + 1;
            if (n == e.hard) {
                if (q.purse < e.cost) {
                    return false;
                }
                q.purse -= e.cost;
                q.done.add(d);
                q.near.remove(d);
            } else {
                q.near.put(d, n);
            }
            return true;
        }

        boolean shrink(int p, int d) {
            if (done(p, d) || near(p, d) == 0) {
                return false;
            }
            payers.get(p).near.merge(d, -1, Integer::sum);
            return true;
        }

        int oneYear() {
            int all = 0;
            for (int p = 0; p < payers.size(); p++) {
                Payer q = payers.get(p);
                q.purse += q.wage;
                if (q.purse > 9999) {
                    q.purse = 9999;
                }
                int tax = tax(p);
                if (q.purse >= tax) {
                    q.purse -= tax;
                    q.paid += tax;
                    all += tax;
                } else {
                    q.owes += tax - q.purse;
                    q.paid += q.purse;
                    all += q.purse;
                    q.purse = 0;
                }
            }
            year++;
            return all;
        }

        boolean wants(int p, int d) {
            return !done(p, d) && near(p, d) > 0;
        }
    }

    private static final class Fault extends RuntimeException {
        private static final long serialVersionUID = 1L;
        final int kind;
        final int place;

        Fault(int kind, int place) {
            this.kind = kind;
            this.place = place;
        }
    }

    private static final class Token {
        final String text;
        final int place;

        Token(String text, int place) {
            this.text = text;
            this.place = place;
        }

        boolean isWord() {
            return text.matches("[a-z]+");
        }

        boolean isName() {
            return text.matches("[a-z]{1,8}") && !RESERVED.contains(text);
        }

        boolean isNumber() {
            return text.matches("[0-9]+");
        }
    }

    private static final class Parser {
        final List<Token> tokens = new ArrayList<>();
        int next = 0;

        Parser(String text) {
            Matcher m = Pattern.compile("[ \n]+|[a-z]+|[0-9]+|[;<>=]|[\\x00-\\xff]").matcher(text);
            int at = 0;
            while (at < text.length() && m.find(at)) {
                String t = m.group();
                if (!t.matches("[ \n]+")) {
                    tokens.add(new Token(t, at));
                }
                at = m.end();
            }
            tokens.add(new Token("", text.length()));
        }

        Token peek() {
            Token t = tokens.get(next);
            if (!t.text.isEmpty() && !t.text.matches("[a-z]+|[0-9]{1,4}|[;<>=]")) {
                throw new Fault(1, t.place);
            }
            return t;
        }

        Token take(boolean good) {
            Token t = peek();
            if (!good) {
                throw new Fault(2, t.place);
            }
            next++;
            return t;
        }

        void expect(String what) {
            take(peek().text.equals(what));
        }

        int number(int least, int most) {
            Token t = take(peek().isNumber());
            int v = Integer.parseInt(t.text);
            if (v < least || v > most) {
                throw new Fault(4, t.place);
            }
            return v;
        }

        Token name() {
            return take(peek().isName());
        }

        int payer(State s) {
            Token t = name();
            for (int p = 0; p < s.payers.size(); p++) {
                if (s.payers.get(p).name.equals(t.text)) {
                    return p;
                }
            }
            throw new Fault(3, t.place);
        }

        int deed(State s) {
            Token t = name();
            for (int d = 0; d < s.deeds.size(); d++) {
                if (s.deeds.get(d).name.equals(t.text)) {
                    return d;
                }
            }
            throw new Fault(3, t.place);
        }
    }

    private static State parseLand(String text) {
        Parser in = new Parser(text);
        State s = new State();
        Set<String> told = new HashSet<>();
        while (!in.peek().text.isEmpty()) {
            Token t = in.take(Set.of("odds", "allow", "deed", "payer", "near", "done").contains(in.peek().text));
            switch (t.text) {
                case "odds", "allow" -> {
                    if (!told.add(t.text)) {
                        throw new Fault(5, t.place);
                    }
                    int v = in.number(0, t.text.equals("odds") ? 16 : 40);
                    if (t.text.equals("odds")) {
                        s.odds = v;
                    } else {
                        s.allowance = v;
                    }
                }
                case "deed" -> {
                    if (s.deeds.size() == 7) {
                        throw new Fault(6, t.place);
                    }
                    Deed d = new Deed();
                    d.name = newName(in, s);
                    in.expect("rate");
                    d.rate = in.number(0, 60);
                    in.expect("hard");
                    d.hard = in.number(1, 9);
                    in.expect("cost");
                    d.cost = in.number(0, 99);
                    s.deeds.add(d);
                }
                case "payer" -> {
                    if (s.payers.size() == 6) {
                        throw new Fault(6, t.place);
                    }
                    Payer p = new Payer();
                    p.name = newName(in, s);
                    in.expect("house");
                    p.house = in.number(0, 99);
                    if (in.peek().text.equals("purse")) {
                        in.expect("purse");
                        p.purse = in.number(0, 999);
                    }
                    if (in.peek().text.equals("wage")) {
                        in.expect("wage");
                        p.wage = in.number(0, 50);
                    }
                    s.payers.add(p);
                }
                default -> {
                    int p = in.payer(s);
                    int place = in.peek().place;
                    int d = in.deed(s);
                    if (s.done(p, d)) {
                        throw new Fault(5, place);
                    }
                    if (t.text.equals("done")) {
                        s.payers.get(p).done.add(d);
                    } else {
                        s.payers.get(p).near.put(d, in.number(0, s.deeds.get(d).hard - 1));
                    }
                }
            }
            in.expect(";");
        }
        return s;
    }

    private static String newName(Parser in, State s) {
        Token t = in.name();
        for (Deed d : s.deeds) {
            if (d.name.equals(t.text)) {
                throw new Fault(3, t.place);
            }
        }
        for (Payer p : s.payers) {
            if (p.name.equals(t.text)) {
                throw new Fault(3, t.place);
            }
        }
        return t.text;
    }

    private static int parseSteps(Parser in, State s, List<Node> to, int depth, int count) {
        int steps = count;
        while (true) {
            Token t = in.peek();
            if (t.text.isEmpty() && depth == 0 || t.text.equals("end") && depth > 0) {
                return steps;
            }
            in.take(Set.of("step", "shrink", "year", "rate", "any", "when", "loop", "stop").contains(t.text));
            if (++steps > 30) {
                throw new Fault(6, t.place);
            }
            if (depth == 3 && (t.text.equals("when") || t.text.equals("loop"))) {
                throw new Fault(7, t.place);
            }
            Node n = new Node();
            n.word = t.text;
            to.add(n);
            switch (t.text) {
                case "step", "shrink" -> {
                    n.payer = in.payer(s);
                    n.deed = in.deed(s);
                }
                case "year" -> n.number = in.number(1, 20);
                case "loop" -> n.number = in.number(1, 99);
                case "rate" -> {
                    n.deed = in.deed(s);
                    n.number = in.number(0, 60);
                }
                case "when" -> parseTest(in, s, n);
                default -> { }
            }
            in.expect(";");
            if (t.text.equals("when") || t.text.equals("loop")) {
                steps = parseSteps(in, s, n.inside, depth + 1, steps);
                in.expect("end");
                in.expect(";");
            }
        }
    }

    private static void parseTest(Parser in, State s, Node n) {
        n.test = in.take(Set.of("done", "near", "purse", "owes").contains(in.peek().text)).text;
        n.payer = in.payer(s);
        if (n.test.equals("done") || n.test.equals("near")) {
            n.deed = in.deed(s);
        }
        if (n.test.equals("purse") || n.test.equals("near")) {
            n.compare = in.take(Set.of("<", ">", "=").contains(in.peek().text)).text;
            n.number = in.number(0, n.test.equals("near") ? 9 : 9999);
        }
    }

    private static final class Halt extends RuntimeException {
        private static final long serialVersionUID = 1L;
    }

    private static final class Run {
        final State s;
        long seed;
        int steps;
        final int[] told = new int[5];

        Run(State s, int seed) {
            this.s = s;
            this.seed = seed;
        }

        int draw(int n) {
            seed = (seed * 2971 + 10909) % 65536;
            return (int) (seed / 8 % n);
        }

        void all(List<Node> nodes) {
            for (Node n : nodes) {
                if (steps == 300) {
                    told[4] = 1;
                    throw new Halt();
                }
                steps++;
                one(n);
            }
        }

        void one(Node n) {
            boolean good = true;
            switch (n.word) {
                case "step" -> good = step(n.payer, n.deed);
                case "shrink" -> good = s.shrink(n.payer, n.deed);
                case "year" -> {
                    good = s.year + n.number <= 9999;
                    for (int i = 0; good && i < n.number; i++) {
                        told[3] += s.oneYear();
                        told[1]++;
                    }
                }
                case "rate" -> {
                    good = s.deeds.get(n.deed).rate != n.number;
                    s.deeds.get(n.deed).rate = n.number;
                }
                case "any" -> {
                    if (s.payers.isEmpty() || s.deeds.isEmpty()) {
                        good = false;
                    } else {
                        int p = draw(s.payers.size());
                        int d = draw(s.deeds.size());
                        good = draw(16) < s.odds ? step(p, d) : s.shrink(p, d);
                    }
                }
                case "when" -> {
                    if (test(n)) {
                        all(n.inside);
                    }
                }
                case "loop" -> {
                    for (int i = 0; i < n.number; i++) {
                        all(n.inside);
                    }
                }
                default -> throw new Halt();
            }
            if (!good) {
                told[0]++;
            }
        }

        boolean step(int p, int d) {
            boolean good = s.step(p, d);
            if (good && s.done(p, d)) {
                told[2]++;
            }
            return good;
        }

        boolean test(Node n) {
            int v = 0;
            switch (n.test) {
                case "done":
                    return s.done(n.payer, n.deed);
                case "owes":
                    return s.payers.get(n.payer).owes > 0;
                case "near":
                    v = s.near(n.payer, n.deed);
                    break;
                default:
                    v = s.payers.get(n.payer).purse;
                    break;
            }
            return n.compare.equals("<") ? v < n.number : n.compare.equals(">") ? v > n.number : v == n.number;
        }

        void go() {
            try {
                all(s.decades);
            } catch (Halt h) {
                return;
            }
        }
    }

    private State s = new State();
    private final List<State> marks = new ArrayList<>();
    private final long[][] trays = new long[4][];
    private final int[] sorts = new int[4];
    private String tape = "";
    private int status = 0;
    private BigInteger top = BigInteger.ZERO;
    private BigInteger bottom = BigInteger.ONE;
    private int faultKind = -1;
    private int faultPlace = -1;
    private int[] lived = null;

    /** Another one with the same past. */
    Oracle copy() {
        Oracle o = new Oracle();
        o.s = s.copy();
        for (State m : marks) {
            o.marks.add(m.copy());
        }
        for (int t = 0; t < 4; t++) {
            o.trays[t] = trays[t] == null ? null : trays[t].clone();
            o.sorts[t] = sorts[t];
        }
        o.tape = tape;
        o.status = status;
        o.top = top;
        o.bottom = bottom;
        o.faultKind = faultKind;
        o.faultPlace = faultPlace;
        o.lived = lived == null ? null : lived.clone();
        return o;
    }

    private long no(int why) {
        status = why;
        return -1;
    }

    private long no0(int why) {
        status = why;
        return 0;
    }

    private long yes(long v) {
        status = 0;
        return v;
    }

    private long fraction(long a, long b) {
        BigInteger g = BigInteger.valueOf(a).gcd(BigInteger.valueOf(b));
        top = BigInteger.valueOf(a).divide(g);
        bottom = BigInteger.valueOf(b).divide(g);
        return yes(1);
    }

    private boolean isP(int p) {
        return p >= 0 && p < s.payers.size();
    }

    private boolean isD(int d) {
        return d >= 0 && d < s.deeds.size();
    }

    private long cut(int tray, long v) {
        return switch (sorts[tray]) {
            case 0 -> (byte) v;
            case 1 -> (short) v;
            case 2 -> (int) v;
            default -> v;
        };
    }

    /** The answer of a call; a boolean counts 1 or 0. */
    long call(String name, long[] a) {
        int[] i = new int[a.length];
        for (int k = 0; k < a.length; k++) {
            i[k] = (int) a[k];
        }
        switch (name) {
            case "status": return status;
            case "top": return top.longValueExact();
            case "bottom": return bottom.longValueExact();
            case "tray": return tray(i[0], i[1], i[2]);
            case "write": return cell(i[0], i[1]) != 0 ? no0(status) : write(i[0], i[1], a[2]);
            case "read": return cell(i[0], i[1]) != 0 ? no(status) : yes(trays[i[0]][i[1]]);
            case "pour": return pour(i[0], i[1], i[2], i[3], i[4]);
            case "feed": return feed(i);
            case "land": return land(i[0]);
            case "decades": return decades(i[0]);
            case "fault": return i[0] == 0 ? faultKind : i[0] == 1 ? faultPlace : -1;
            case "many": return many(i[0]);
            case "deed": return deed(i[0], i[1]);
            case "payer": return payer(i[0], i[1]);
            case "near": return isP(i[0]) && isD(i[1]) ? yes(s.near(i[0], i[1])) : no(2);
            case "part": return isP(i[0]) && isD(i[1]) ? yes(s.part(i[0], i[1])) : no(2);
            case "copyTax": return copyTax(i[0]);
            case "step": return !isP(i[0]) || !isD(i[1]) ? no(2) : s.step(i[0], i[1]) ? yes(s.near(i[0], i[1])) : no(9);
            case "shrink": return !isP(i[0]) || !isD(i[1]) ? no(2) : s.shrink(i[0], i[1]) ? yes(s.near(i[0], i[1])) : no(9);
            case "year": return year(i[0]);
            case "price": return price(i[0], i[1], i[2]);
            case "hire": return hire(i[0], i[1]);
            case "forgive": return forgive(i[0]);
            case "come": return come(i[0]);
            case "dream": return dream(i[0], i[1], i[2]);
            case "rule": return rule(i[0], i[1]);
            case "plan": return !isP(i[0]) ? no(2) : i[1] < 1 || i[1] > 20 ? no(5) : yes(plan(s, i[0], i[1])[0]);
            case "planSet": return !isP(i[0]) ? no(2) : i[1] < 1 || i[1] > 20 ? no(5) : yes(plan(s, i[0], i[1])[2]);
            case "lure": return lure(i[0], i[1], i[2]);
            case "owesIn": return owesIn(i[0]);
            case "fits": return receipts(i[0], i[1]) == null ? -1 : yes(receipts(i[0], i[1]).size());
            case "fitsAt": return fitsAt(i[0], i[1], i[2]);
            case "sure": return sure(i[0], i[1]);
            case "ask": return ask(i[0], i[1]);
            case "rounds": return rounds(i[0]);
            case "crew": return crew(i[0]);
            case "split": return split(i[0], i[1]);
            case "help": return yes(helpWays(new int[s.payers.size()], 0, null)[0]);
            case "helped": return helped(i[0]);
            case "game": return game(i[0], i[1], i[2]);
            case "moveOf": return moveOf(i[0], i[1], i[2]);
            case "luck": return luck(i[0], i[1]);
            case "bears": return bears(i[0]);
            case "live": return live(i[0]);
            case "lived": return i[0] < 0 || i[0] > 4 ? no(5) : lived == null ? no(8) : yes(lived[i[0]]);
            case "mean": return mean(i[0], i[1]);
            case "mark": return mark();
            case "back": return back();
            default: throw new IllegalStateException(name);
        }
    }

    private long tray(int t, int sort, int many) {
        if (t < 0 || t > 3 || sort < 0 || sort > 3) {
            return no0(1);
        }
        if (many > 60) {
            return no0(5);
        }
        if (many < 0) {
            return no0(6);
        }
        trays[t] = new long[many];
        sorts[t] = sort;
        return yes(1);
    }

    private int cell(int t, int place) {
        status = t < 0 || t > 3 ? 1 : trays[t] == null ? 3 : place < 0 || place >= trays[t].length ? 4 : 0;
        return status;
    }

    private long write(int t, int place, long v) {
        trays[t][place] = cut(t, v);
        return yes(1);
    }

    private long pour(int t, int i, int to, int j, int many) {
        if (t < 0 || t > 3 || to < 0 || to > 3) {
            return no0(1);
        }
        if (trays[t] == null || trays[to] == null) {
            return no0(3);
        }
        if (sorts[t] != sorts[to]) {
            return no0(11);
        }
        if (many < 0) {
            return no0(6);
        }
        if (i < 0 || j < 0 || (long) i + many > trays[t].length || (long) j + many > trays[to].length) {
            return no0(4);
        }
        long[] kept = Arrays.copyOfRange(trays[t], i, i + many);
        for (int k = 0; k < many; k++) {
            trays[to][j + k] = kept[k];
        }
        return yes(1);
    }

    private long feed(int[] five) {
        if (tape.length() > 880) {
            return -1;
        }
        StringBuilder more = new StringBuilder(tape);
        for (int v : five) {
            for (byte b : java.nio.ByteBuffer.allocate(4).putInt(v).array()) {
                more.append((char) (b & 255));
            }
        }
        tape = more.toString();
        return tape.length();
    }

    private long land(int n) {
        if (n < 0 || n > tape.length()) {
            return no(5);
        }
        String text = tape.substring(0, n);
        tape = "";
        try {
            s = parseLand(text);
        } catch (Fault f) {
            faultKind = f.kind;
            faultPlace = f.place;
            return no(10);
        }
        faultKind = 0;
        faultPlace = -1;
        return yes(s.payers.size());
    }

    private long decades(int n) {
        if (n < 0 || n > tape.length() || n > 300) {
            return no(5);
        }
        Parser in = new Parser(tape.substring(0, n));
        tape = "";
        List<Node> nodes = new ArrayList<>();
        int steps;
        try {
            steps = parseSteps(in, s, nodes, 0, 0);
        } catch (Fault f) {
            faultKind = f.kind;
            faultPlace = f.place;
            return no(10);
        }
        s.decades = nodes;
        faultKind = 0;
        faultPlace = -1;
        return yes(steps);
    }

    private long many(int what) {
        if (what < 0 || what > 9) {
            return no(5);
        }
        long v = 0;
        int p = 0;
        for (Payer q : s.payers) {
            v += what == 5 ? q.paid : what == 6 ? q.owes : what == 7 ? s.tax(p) : what == 9 ? q.purse : 0;
            if (what == 8) {
                boolean content = true;
                for (int d = 0; d < s.deeds.size(); d++) {
                    content &= !s.wants(p, d);
                }
                v += content ? 1 << p : 0;
            }
            p++;
        }
        return yes(what == 0 ? s.deeds.size() : what == 1 ? s.payers.size() : what == 2 ? s.odds
            : what == 3 ? s.allowance : what == 4 ? s.year : v);
    }

    private int full(int d) {
        Deed e = s.deeds.get(d);
        return BigInteger.valueOf((long) e.rate * (e.hard - 1)).divide(BigInteger.valueOf(e.hard)).intValue();
    }

    private long deed(int d, int what) {
        if (!isD(d)) {
            return no(2);
        }
        if (what < 0 || what > 5) {
            return no(5);
        }
        Deed e = s.deeds.get(d);
        int doers = 0;
        int nears = 0;
        for (int p = 0; p < s.payers.size(); p++) {
            if (s.done(p, d)) {
                doers += 1 << p;
            } else {
                nears += s.near(p, d);
            }
        }
        return yes(new int[] {e.rate, e.hard, e.cost, full(d), doers, nears}[what]);
    }

    private long payer(int p, int what) {
        if (!isP(p)) {
            return no(2);
        }
        if (what < 0 || what > 7) {
            return no(5);
        }
        Payer q = s.payers.get(p);
        int done = 0;
        int near = 0;
        for (int d = 0; d < s.deeds.size(); d++) {
            done += s.done(p, d) ? 1 << d : 0;
            near += s.wants(p, d) ? 1 << d : 0;
        }
        return yes(new int[] {q.house, q.purse, q.wage, q.paid, q.owes, s.tax(p), done, near}[what]);
    }

    private long copyTax(int t) {
        if (t < 0 || t > 3) {
            return no(1);
        }
        if (trays[t] == null) {
            return no(3);
        }
        if (trays[t].length < s.payers.size()) {
            return no(4);
        }
        for (int p = 0; p < s.payers.size(); p++) {
            trays[t][p] = cut(t, s.tax(p));
        }
        return yes(s.payers.size());
    }

    private long year(int years) {
        if (years < 1 || years > 99) {
            return no(5);
        }
        if (s.year + years > 9999) {
            return no(7);
        }
        long all = 0;
        for (int i = 0; i < years; i++) {
            all += s.oneYear();
        }
        return yes(all);
    }

    private long price(int d, int what, int much) {
        if (!isD(d)) {
            return no0(2);
        }
        if (what != 0 && what != 2 || much < 0 || much > (what == 0 ? 60 : 99)) {
            return no0(5);
        }
        if (what == 0) {
            s.deeds.get(d).rate = much;
        } else {
            s.deeds.get(d).cost = much;
        }
        return yes(1);
    }

    private long hire(int p, int wage) {
        if (!isP(p)) {
            return no0(2);
        }
        if (wage < 0 || wage > 50) {
            return no0(5);
        }
        s.payers.get(p).wage = wage;
        return yes(1);
    }

    private long forgive(int p) {
        if (!isP(p)) {
            return no(2);
        }
        int debt = s.payers.get(p).owes;
        if (debt == 0) {
            return no(8);
        }
        s.payers.get(p).owes = 0;
        return yes(debt);
    }

    private long come(int house) {
        if (house < 0 || house > 99) {
            return no(5);
        }
        if (s.payers.size() == 6) {
            return no(7);
        }
        Payer p = new Payer();
        p.house = house;
        s.payers.add(p);
        return yes(s.payers.size() - 1);
    }

    private long dream(int rate, int hard, int cost) {
        if (rate < 0 || rate > 60 || hard < 1 || hard > 9 || cost < 0 || cost > 99) {
            return no(5);
        }
        if (s.deeds.size() == 7) {
            return no(7);
        }
        Deed d = new Deed();
        d.rate = rate;
        d.hard = hard;
        d.cost = cost;
        s.deeds.add(d);
        return yes(s.deeds.size() - 1);
    }

    private long rule(int what, int much) {
        if (what == 2 && much >= 0 && much <= 16) {
            s.odds = much;
            return yes(1);
        }
        if (what == 3 && much >= 0 && much <= 40) {
            s.allowance = much;
            return yes(1);
        }
        return no0(5);
    }

    /** What is paid, how many deeds, the set. */
    private static int[] plan(State s, int p, int years) {
        int[] best = null;
        for (int set = 0; set < 1 << s.deeds.size(); set++) {
            int costs = 0;
            int left = -s.allowance;
            boolean good = true;
            for (int d = 0; d < s.deeds.size(); d++) {
                if ((set >> d & 1) == 1) {
                    costs += s.deeds.get(d).cost;
                    good &= !s.done(p, d);
                } else {
                    left += s.part(p, d);
                }
            }
            int[] now = {costs + years * Math.max(0, left), Integer.bitCount(set), set};
            if (good && costs <= s.payers.get(p).purse && (best == null || Arrays.compare(now, best) < 0)) {
                best = now;
            }
        }
        return best;
    }

    private long lure(int p, int d, int years) {
        if (!isP(p) || !isD(d)) {
            return no(2);
        }
        if (years < 1 || years > 20) {
            return no(5);
        }
        if (s.done(p, d)) {
            return no(9);
        }
        for (int r = 0; r <= 60; r++) {
            State t = s.copy();
            t.deeds.get(d).rate = r;
            if ((plan(t, p, years)[2] >> d & 1) == 1) {
                return yes(r);
            }
        }
        return no(8);
    }

    private long owesIn(int p) {
        if (!isP(p)) {
            return no(2);
        }
        State t = s.copy();
        for (int y = 0; y <= 99; y++) {
            if (t.payers.get(p).owes > 0) {
                return yes(y);
            }
            t.oneYear();
        }
        return no(8);
    }

    private List<Integer> receipts(int t, int n) {
        status = t < 0 || t > 3 ? 1 : trays[t] == null ? 3 : 2L * n > trays[t].length ? 4 : n < 0 || n > 20 ? 5 : 0;
        if (status != 0) {
            return null;
        }
        long sets = 1L << s.deeds.size();
        for (int k = 0; k < n; k++) {
            if (trays[t][2 * k] < 0 || trays[t][2 * k] >= sets || trays[t][2 * k + 1] < 0 || trays[t][2 * k + 1] > 999) {
                status = 5;
                return null;
            }
        }
        List<Integer> fit = new ArrayList<>();
        for (int set = 0; set < sets; set++) {
            boolean good = true;
            for (int k = 0; k < n; k++) {
                good &= sum(set & (int) trays[t][2 * k]) == trays[t][2 * k + 1];
            }
            if (good) {
                fit.add(set);
            }
        }
        return fit;
    }

    private int sum(int set) {
        int all = 0;
        for (int d = 0; d < s.deeds.size(); d++) {
            all += (set >> d & 1) == 1 ? full(d) : 0;
        }
        return all;
    }

    private long fitsAt(int t, int n, int k) {
        List<Integer> fit = receipts(t, n);
        if (fit == null) {
            return -1;
        }
        return k < 0 || k >= fit.size() ? no(8) : yes(fit.get(k));
    }

    private long sure(int t, int n) {
        List<Integer> fit = receipts(t, n);
        if (fit == null) {
            return -1;
        }
        if (fit.isEmpty()) {
            return no(8);
        }
        int set = 0;
        for (int d = 0; d < s.deeds.size(); d++) {
            boolean all = true;
            for (int f : fit) {
                all &= (f >> d & 1) == 1;
            }
            set += all ? 1 << d : 0;
        }
        return yes(set);
    }

    private long ask(int t, int n) {
        List<Integer> fit = receipts(t, n);
        if (fit == null) {
            return -1;
        }
        if (fit.size() < 2) {
            return no(8);
        }
        int best = -1;
        int fewest = 1000;
        for (int q = 0; q < 1 << s.deeds.size(); q++) {
            Map<Integer, Integer> groups = new HashMap<>();
            int most = 0;
            for (int f : fit) {
                most = Math.max(most, groups.merge(sum(f & q), 1, Integer::sum));
            }
            if (most < fewest) {
                fewest = most;
                best = q;
            }
        }
        return yes(best);
    }

    private List<Integer> taxedHouses() {
        List<Integer> houses = new ArrayList<>();
        for (int p = 0; p < s.payers.size(); p++) {
            if (s.tax(p) > 0) {
                houses.add(s.payers.get(p).house);
            }
        }
        houses.sort(null);
        return houses;
    }

    /** By cuts between houses (bits): parts and the longest of them. */
    private static int[] cutRoad(List<Integer> houses, int cuts) {
        int longest = 0;
        int first = houses.get(0);
        for (int k = 0; k < houses.size(); k++) {
            longest = Math.max(longest, houses.get(k) - first);
            if ((cuts >> k & 1) == 1 && k + 1 < houses.size()) {
                first = houses.get(k + 1);
            }
        }
        return new int[] {Integer.bitCount(cuts) + 1, longest};
    }

    private long rounds(int k) {
        if (k < 1 || k > 6) {
            return no(5);
        }
        List<Integer> houses = taxedHouses();
        if (houses.isEmpty()) {
            return yes(0);
        }
        int best = 1000;
        for (int cuts = 0; cuts < 1 << houses.size() - 1; cuts++) {
            int[] c = cutRoad(houses, cuts);
            best = c[0] <= k ? Math.min(best, c[1]) : best;
        }
        return yes(best);
    }

    private long crew(int length) {
        if (length < 0 || length > 99) {
            return no(5);
        }
        List<Integer> houses = taxedHouses();
        if (houses.isEmpty()) {
            return yes(0);
        }
        int best = 1000;
        for (int cuts = 0; cuts < 1 << houses.size() - 1; cuts++) {
            int[] c = cutRoad(houses, cuts);
            best = c[1] <= length ? Math.min(best, c[0]) : best;
        }
        return yes(best);
    }

    private long split(int p, int d) {
        if (!isP(p) || !isD(d)) {
            return no0(2);
        }
        if (s.done(p, d)) {
            return no0(9);
        }
        int all = 0;
        for (int q = 0; q < s.payers.size(); q++) {
            all += s.done(q, d) ? 0 : s.near(q, d);
        }
        return all == 0 ? no0(8) : fraction(s.near(p, d), all);
    }

    /** All ways: how many are helped at most; into best the first way of that many (7: none). */
    private int[] helpWays(int[] way, int p, int[][] best) {
        int[][] kept = best == null ? new int[][] {{-1}, null} : best;
        if (p == s.payers.size()) {
            int told = 0;
            for (int d : way) {
                told += d < 7 ? 1 : 0;
            }
            if (told > kept[0][0] || told == kept[0][0] && Arrays.compare(way, kept[1]) < 0) {
                kept[0][0] = told;
                kept[1] = way.clone();
            }
        } else {
            for (int d = 0; d <= 7; d++) {
                boolean good = d == 7 || isD(d) && s.wants(p, d);
                for (int q = 0; q < p && d < 7; q++) {
                    good &= way[q] != d;
                }
                if (good) {
                    way[p] = d;
                    helpWays(way, p + 1, kept);
                }
            }
        }
        lastWay = kept[1];
        return new int[] {kept[0][0]};
    }

    private int[] lastWay;

    private long helped(int p) {
        if (!isP(p)) {
            return no(2);
        }
        helpWays(new int[s.payers.size()], 0, null);
        return lastWay[p] == 7 ? no(8) : yes(lastWay[p]);
    }

    private static int play(State t, int first, int second, int done, int turns) {
        if (done == turns) {
            return t.tax(second) - t.tax(first);
        }
        boolean firsts = done % 2 == 0;
        int mover = firsts ? first : second;
        int best = play(t, first, second, done + 1, turns);
        for (int d = 0; d < t.deeds.size(); d++) {
            State u = t.copy();
            if (u.step(mover, d)) {
                int v = play(u, first, second, done + 1, turns);
                best = firsts ? Math.max(best, v) : Math.min(best, v);
            }
        }
        return best;
    }

    private long game(int p, int q, int turns) {
        if (!isP(p) || !isP(q)) {
            return no(2);
        }
        return p == q || turns < 0 || turns > 4 ? no(5) : yes(play(s, p, q, 0, turns));
    }

    private long moveOf(int p, int q, int turns) {
        if (!isP(p) || !isP(q)) {
            return no(2);
        }
        if (p == q || turns < 1 || turns > 4) {
            return no(5);
        }
        int best = play(s, p, q, 0, turns);
        for (int d = 0; d < s.deeds.size(); d++) {
            State u = s.copy();
            if (u.step(p, d) && play(u, p, q, 1, turns) == best) {
                return yes(d);
            }
        }
        return no(8);
    }

    private long luck(int p, int k) {
        if (!isP(p)) {
            return no0(2);
        }
        if (k < 0 || k > 7) {
            return no0(5);
        }
        int n = 0;
        for (int d = 0; d < s.deeds.size(); d++) {
            n += s.wants(p, d) ? 1 : 0;
        }
        long ways = 0;
        for (int set = 0; set < 1 << n; set++) {
            if (Integer.bitCount(set) >= k) {
                long w = 1;
                for (int i = 0; i < n; i++) {
                    w *= (set >> i & 1) == 1 ? s.odds : 16 - s.odds;
                }
                ways += w;
            }
        }
        return fraction(ways, 1L << 4 * n);
    }

    private long bears(int p) {
        if (!isP(p)) {
            return no0(2);
        }
        long all = 0;
        for (int q = 0; q < s.payers.size(); q++) {
            all += s.tax(q);
        }
        return all == 0 ? no0(8) : fraction(s.tax(p), all);
    }

    private long live(int seed) {
        if (seed < 0 || seed > 9999) {
            return no(5);
        }
        if (s.decades == null) {
            return no(8);
        }
        Run r = new Run(s, seed);
        r.go();
        lived = r.told;
        return yes(r.steps);
    }

    private long mean(int seed, int many) {
        if (seed < 0 || seed > 9999 || many < 1 || many > 20 || seed + many - 1 > 9999) {
            return no0(5);
        }
        if (s.decades == null) {
            return no0(8);
        }
        long all = 0;
        for (int k = 0; k < many; k++) {
            State t = s.copy();
            new Run(t, seed + k).go();
            for (Payer q : t.payers) {
                all += q.paid;
            }
        }
        return fraction(all, many);
    }

    private long mark() {
        if (marks.size() == 3) {
            return no(7);
        }
        marks.add(s.copy());
        return yes(marks.size());
    }

    private long back() {
        if (marks.isEmpty()) {
            return no(8);
        }
        s = marks.remove(marks.size() - 1);
        return yes(marks.size());
    }
}
