import java.util.ArrayList;
import java.util.List;

/**
 * The edges of the two texts (Terms, ==== 1 and ==== 4; promises 9 to 12): each PART and each of the STEPS is spoilt
 * token by token, each byte, number, name and length is tried at its bounds and just beyond.
 */
public final class TextEdges {
    private static final Check C = new Check();
    private static final String WORDS = "odds allow deed rate hard cost payer house purse wage near done step shrink year any when "
        + "owes loop end stop";
    /** What each text stands behind: a DEED da (HARD 4) and a PAYER pa. */
    private static final String TOLD = "deed da rate 10 hard 4 cost 5;payer pa house 3;";
    /** +: a new NAME, P: a PAYER, D: a DEED, C: one that COMPARES, 0-16: a NUMBER between these; the rest as it stands. */
    private static final String[] PARTS = {
        "odds 0-16 ;", "allow 0-40 ;", "deed + rate 0-60 hard 1-9 cost 0-99 ;", "payer + house 0-99 ;",
        "payer + house 0-99 purse 0-999 ;", "payer + house 0-99 wage 0-50 ;",
        "payer + house 0-99 purse 0-999 wage 0-50 ;", "near P D 0-3 ;", "done P D ;"};
    private static final String[] STEPS = {
        "step P D ;", "shrink P D ;", "year 1-20 ;", "rate D 0-60 ;", "any ;", "when done P D ; end ;",
        "when near P D C 0-9 ; end ;", "when purse P C 0-9999 ; end ;", "when owes P ; end ;", "loop 1-99 ; end ;", "stop ;"};

    private final boolean ofLand;
    private final String ahead;

    private TextEdges(boolean ofLand) {
        this.ofLand = ofLand;
        this.ahead = ofLand ? TOLD : "any;";
    }

    public static void main(String[] args) {
        TextEdges land = new TextEdges(true);
        TextEdges decades = new TextEdges(false);
        for (String part : PARTS) {
            land.spoilAll(part.split(" "));
        }
        for (String step : STEPS) {
            decades.spoilAll(step.split(" "));
        }
        beginnings();
        bytes();
        tokensAsLongAsTheyGo();
        numbers();
        names();
        without();
        toldAhead();
        toldAgain();
        tooMany();
        leastKindOfOneToken();
        firstAlongTheText();
        tooManySteps();
        tooDeep();
        ends();
        lengthsOfLand();
        lengthsOfDecades();
        firstBytesOfTheTape();
        feed();
        oldOneStays();
        aNewLand();
        faultTells();
        C.finish();
    }

    // ---- every PART, all STEPS, token by token

    private int place(String text) {
        return ahead.length() + text.length();
    }

    /** The text behind what is told ahead; kind 0: it is taken. */
    private void read(String text, int kind, int place) {
        AlmostTax x = Check.landOf(TOLD);
        String all = ahead + text;
        int got = ofLand ? Check.land(x, all) : Check.decades(x, all);
        if (kind == 0) {
            C.due("status() behind " + all, x.status(), 0);
            C.due("fault(0) of " + all, x.fault(0), 0);
            C.due("fault(1) of " + all, x.fault(1), -1);
        } else {
            C.dueFault(all, x, got, kind, place);
        }
    }

    private static boolean isNumber(String slot) {
        return slot.indexOf('-') > 0;
    }

    private static String good(String slot) {
        switch (slot) {
            case "+": return "new";
            case "P": return "pa";
            case "D": return "da";
            case "C": return "=";
            default: return isNumber(slot) ? slot.split("-")[1] : slot;
        }
    }

    private static String joined(String[] slots, int from, int to) {
        StringBuilder b = new StringBuilder();
        for (int i = from; i < to; i++) {
            b.append(good(slots[i])).append(' ');
        }
        return b.toString();
    }

    private void spoilAll(String[] slots) {
        read(joined(slots, 0, slots.length), 0, -1);
        read(joined(slots, 0, slots.length).replace(" ;", ";"), 0, -1);
        read(joined(slots, 0, slots.length).replace(" ", "\n \n"), 0, -1);
        for (int i = 1; i < slots.length; i++) {
            String cut = joined(slots, 0, i);
            read(cut, 2, place(cut));
            read(cut.trim(), 2, place(cut.trim()));
        }
        for (int i = 0; i < slots.length; i++) {
            spoil(slots, i);
        }
    }

    private void spoil(String[] slots, int i) {
        String cut = joined(slots, 0, i);
        String rest = " " + joined(slots, i + 1, slots.length);
        for (String none : new String[] {"!", "A", "12345", "-1", "\t", "\u00e9"}) {
            read(cut + none + rest, 1, place(cut));
        }
        for (String wrong : wrongFor(slots[i], i)) {
            read(cut + wrong + rest, 2, place(cut));
        }
        if (slots[i].equals("P") || slots[i].equals("D")) {
            read(cut + "who" + rest, 3, place(cut));
            read(cut + (slots[i].equals("P") ? "da" : "pa") + rest, 3, place(cut));
        }
        if (slots[i].equals("+")) {
            read(cut + "da" + rest, 3, place(cut));
            read(cut + "pa" + rest, 3, place(cut));
        }
        if (slots[i].equals("C")) {
            read(cut + "<" + rest, 0, -1);
            read(cut + ">" + rest, 0, -1);
        }
        if (isNumber(slots[i])) {
            numberAt(cut, slots[i], rest);
        }
    }

    private void numberAt(String cut, String slot, String rest) {
        int least = Integer.parseInt(slot.split("-")[0]);
        int most = Integer.parseInt(slot.split("-")[1]);
        read(cut + least + rest, 0, -1);
        read(cut + most + rest, 0, -1);
        if (least > 0) {
            read(cut + (least - 1) + rest, 4, place(cut));
        }
        if (most < 9999) {
            read(cut + (most + 1) + rest, 4, place(cut));
            read(cut + "9999" + rest, 4, place(cut));
        }
        if (most < 1000) {
            read(cut + "0" + most + rest, 0, -1);
        }
    }

    private static List<String> wrongFor(String slot, int i) {
        List<String> wrong = new ArrayList<>(List.of("ninelette"));
        boolean aName = "+PD".contains(slot);
        if (aName) {
            wrong.addAll(List.of(WORDS.split(" ")));
        }
        if (i > 0 && !aName) {
            wrong.add("allow");
        }
        if (!isNumber(slot)) {
            wrong.add("7");
        }
        if (!aName) {
            wrong.add("pa");
        }
        if (!slot.equals("C")) {
            wrong.addAll(List.of("<", ">", "="));
        }
        // purse, wage may be left out: then a ; may stand there
        if (!slot.equals(";") && !slot.equals("purse") && !slot.equals("wage")) {
            wrong.add(";");
        }
        return wrong;
    }

    // ---- what may stand where

    /** 2: it can't stand there. */
    private static void beginnings() {
        String parts = " odds allow deed payer near done ";
        String steps = " step shrink year rate any when loop stop ";
        for (String word : WORDS.split(" ")) {
            boolean part = parts.contains(" " + word + " ");
            boolean step = steps.contains(" " + word + " ");
            // a word that may begin is missed by what is behind it, at the end
            AlmostTax x = new AlmostTax();
            C.dueFault("a LAND that is " + word, x, Check.land(x, word), 2, part ? word.length() : 0);
            C.dueFault("DECADES that are " + word, x, Check.decades(x, word), 2, step ? word.length() : 0);
            // TEST: done, near, purse, owes
            boolean test = " done near purse owes ".contains(" " + word + " ");
            C.dueFault("when " + word, x, Check.decades(x, "when " + word), 2, test ? 5 + word.length() : 5);
        }
    }

    /** TOKENS are small letters, digits, the four SIGNS; between them 10 and 32; 1: no TOKEN begins so. */
    private static void bytes() {
        for (int b = 0; b < 256; b++) {
            char c = (char) b;
            boolean blank = b == 10 || b == 32;
            boolean letter = c >= 'a' && c <= 'z';
            boolean digit = c >= '0' && c <= '9';
            boolean sign = c == ';' || c == '<' || c == '>' || c == '=';
            boolean token = letter || digit || sign;
            AlmostTax x = new AlmostTax();
            String why = "byte " + b;
            if (blank) {
                C.due(why + " alone", x, Check.land(x, "" + c), 0, 0);
                C.due(why + " alone as DECADES", x, Check.decades(x, "" + c), 0, 0);
                C.due(why + " between", x, Check.land(x, c + "odds" + c + "3" + c + ";" + c), 0, 0);
                C.dueFault(why + " within a WORD", x, Check.land(x, "od" + c + "ds 3;"), 2, 0);
            } else {
                C.dueFault(why + " alone", x, Check.land(x, "" + c), token ? 2 : 1, 0);
                C.dueFault(why + " alone as DECADES", x, Check.decades(x, "" + c), token ? 2 : 1, 0);
                C.dueFault(why + " behind a NUMBER", x, Check.land(x, "odds 3" + c + "=;"), digit ? 4 : token ? 2 : 1,
                    digit ? 5 : c == ';' ? 7 : 6);
                C.dueFault(why + " behind a WORD", x, Check.land(x, "odds" + c + "99;"), digit ? 4 : token ? 2 : 1,
                    letter ? 0 : 4);
            }
        }
    }

    /** TOKENS, as long as they go. */
    private static void tokensAsLongAsTheyGo() {
        AlmostTax x = new AlmostTax();
        C.due("words end where digits begin", x, Check.land(x, "odds16;payer a house5purse7wage9;"), 1, 0);
        C.due("odds", x.many(2), 16);
        C.due("purse", x.payer(0, 1), 7);
        C.dueFault("digits end where letters begin", x, Check.land(x, "odds 1x;"), 2, 6);
        C.dueFault("two words without a blank are one", x, Check.land(x, "oddsallow 1;"), 2, 0);
        C.dueFault("a word goes on behind a word", x, Check.land(x, "payerx house 1;"), 2, 0);
        C.dueFault("two numbers without a blank are one", x, Check.land(x, "odds 1616;"), 4, 5);
        C.dueFault("two numbers with a blank are two", x, Check.land(x, "odds 1 6;"), 2, 7);
        C.dueFault("signs are one by one", x, Check.land(x, "odds 1;;"), 2, 7);
        C.due("any;any", x, Check.decades(x, "any;any;"), 2, 0);
        C.dueFault("anyany", x, Check.decades(x, "anyany;"), 2, 0);
    }

    /** NUMBERS (1 to 4 digits); of 5 digits and more: 1, at its first. */
    private static void numbers() {
        AlmostTax x = new AlmostTax();
        C.due("1 digit", x, Check.land(x, "odds 7;"), 0, 0);
        C.due("4 digits", x, Check.land(x, "odds 0007;"), 0, 0);
        C.due("0007 is 7", x.many(2), 7);
        C.due("0000", x, Check.land(x, "odds 0000;"), 0, 0);
        C.due("0000 is 0", x.many(2), 0);
        C.dueFault("9999 can't be, but is a NUMBER", x, Check.land(x, "odds 9999;"), 4, 5);
        C.dueFault("00007", x, Check.land(x, "odds 00007;"), 1, 5);
        C.dueFault("00000", x, Check.land(x, "odds 00000;"), 1, 5);
        C.dueFault("10000", x, Check.land(x, "odds 10000;"), 1, 5);
        C.dueFault("2 to the 32nd and 7", x, Check.land(x, "odds 4294967303;"), 1, 5);
        C.dueFault("2 to the 64th and 7", x, Check.land(x, "odds 18446744073709551623;"), 1, 5);
        C.dueFault("hundreds of digits", x, Check.land(x, "odds " + "0".repeat(890) + "7;"), 1, 5);
        C.dueFault("where none may stand", x, Check.land(x, "12345 odds;"), 1, 0);
        C.dueFault("at the end", x, Check.land(x, "odds 1;12345"), 1, 7);
        C.dueFault("of DECADES", x, Check.decades(x, "year 4294967303;"), 1, 5);
    }

    /** NAME: a WORD of 1 to 8 letters that is none of the 21; one NAME is of one thing alone. */
    private static void names() {
        AlmostTax x = new AlmostTax();
        C.due("1 letter", x, Check.land(x, "payer a house 1;"), 1, 0);
        C.due("8 letters", x, Check.land(x, "payer abcdefgh house 1;"), 1, 0);
        C.dueFault("9 letters", x, Check.land(x, "payer abcdefghi house 1;"), 2, 6);
        C.dueFault("9 letters whose first 8 are a NAME", x, Check.land(x, "deed abcdefgh rate 1 hard 2 cost 1;payer p house 1;"
            + "near p abcdefghi 1;"), 2, 58);
        C.dueFault("800 letters", x, Check.land(x, "payer " + "a".repeat(800) + " house 1;"), 2, 6);
        for (String word : WORDS.split(" ")) {
            x = new AlmostTax();
            C.due("all but the last letter of " + word, x,
                Check.land(x, "payer " + word.substring(0, word.length() - 1) + " house 1;"), 1, 0);
            C.due("a letter more than " + word, x, Check.land(x, "deed " + word + "s rate 1 hard 1 cost 1;"), 0, 0);
            C.due("a letter ahead of " + word, x, Check.land(x, "payer a" + word + " house 1;"), 1, 0);
        }
        // names of which any two are unlike, though they begin, end, or add up alike
        String[] unlike = {"a", "aa", "aaa", "z", "az", "za", "zz", "aaaaaaaa", "aaaaaaab", "baaaaaaa", "zzzzzzzz", "zzzzzzzy"};
        for (String one : unlike) {
            for (String other : unlike) {
                x = new AlmostTax();
                String text = "deed " + one + " rate 1 hard 2 cost 1;payer " + other + " house 1;";
                if (one.equals(other)) {
                    C.dueFault(text, x, Check.land(x, text), 3, text.indexOf("payer") + 6);
                } else {
                    C.due(text, x, Check.land(x, text + "near " + other + " " + one + " 1;"), 1, 0);
                    C.dueFault("no such PAYER", x, Check.decades(x, "step " + one + " " + one + ";"), 3, 5);
                    C.dueFault("no such DEED", x, Check.decades(x, "rate " + other + " 1;"), 3, 5);
                    C.due("both", x, Check.decades(x, "step " + other + " " + one + ";"), 1, 0);
                }
            }
        }
    }

    /** ODDS 8, ALLOWANCE 0, PURSE 50, WAGE 10, NEAR 0 without. */
    private static void without() {
        AlmostTax x = Check.landOf("deed d rate 60 hard 9 cost 99;payer p house 99;payer q house 0 purse 0;payer r house 1 wage 0;"
            + "payer s house 2 purse 999 wage 50;");
        C.due("ODDS 8 without", x.many(2), 8);
        C.due("ALLOWANCE 0 without", x.many(3), 0);
        int[][] due = {{99, 50, 10}, {0, 0, 10}, {1, 50, 0}, {2, 999, 50}};
        for (int p = 0; p < 4; p++) {
            for (int what = 0; what < 3; what++) {
                C.due("payer(" + p + ", " + what + ")", x.payer(p, what), due[p][what]);
            }
            C.due("near to nothing without", x.near(p, 0), 0);
        }
        C.due("RATE 60", x.deed(0, 0), 60);
        C.due("HARD 9", x.deed(0, 1), 9);
        C.due("COST 99", x.deed(0, 2), 99);
        x = Check.landOf("odds 0;allow 40;deed d rate 0 hard 1 cost 0;");
        C.due("ODDS 0", x.many(2), 0);
        C.due("ALLOWANCE 40", x.many(3), 40);
        C.due("RATE 0", x.deed(0, 0), 0);
        C.due("HARD 1", x.deed(0, 1), 1);
        C.due("COST 0", x.deed(0, 2), 0);
        x = Check.landOf("odds 16;allow 0;");
        C.due("ODDS 16", x.many(2), 16);
        C.due("ALLOWANCE 0", x.many(3), 0);
        C.dueFault("wage ahead of purse", x, Check.land(x, "payer p house 1 wage 1 purse 1;"), 2, 23);
        C.dueFault("purse twice", x, Check.land(x, "payer p house 1 purse 1 purse 1;"), 2, 24);
        C.dueFault("wage twice", x, Check.land(x, "payer p house 1 wage 1 wage 1;"), 2, 23);
        C.dueFault("no house", x, Check.land(x, "payer p;"), 2, 7);
        C.dueFault("hard ahead of rate", x, Check.land(x, "deed d hard 1 rate 1 cost 1;"), 2, 7);
        C.dueFault("no cost", x, Check.land(x, "deed d rate 1 hard 1;"), 2, 20);
    }

    /** All are numbered as they stand; what a PART names must be told ahead. */
    private static void toldAhead() {
        AlmostTax x = Check.landOf("payer z house 9;deed y rate 5 hard 3 cost 1;payer a house 8;near a y 2;"
            + "deed b rate 6 hard 2 cost 1;near z b 1;done a b;");
        C.due("PAYER 0 stands first", x.payer(0, 0), 9);
        C.due("PAYER 1", x.payer(1, 0), 8);
        C.due("DEED 0 stands first", x.deed(0, 0), 5);
        C.due("DEED 1", x.deed(1, 0), 6);
        C.due("near a y 2", x.near(1, 0), 2);
        C.due("near z b 1", x.near(0, 1), 1);
        C.due("done a b", x.near(1, 1), 2);
        String d = "deed d rate 1 hard 3 cost 1;";
        String p = "payer p house 1;";
        C.dueFault("a PAYER told behind", x, Check.land(x, d + "near p d 1;" + p), 3, d.length() + 5);
        C.dueFault("a DEED told behind", x, Check.land(x, p + "near p d 1;" + d), 3, p.length() + 7);
        C.dueFault("done of a PAYER told behind", x, Check.land(x, d + "done p d;" + p), 3, d.length() + 5);
        C.dueFault("done of a DEED told behind", x, Check.land(x, p + "done p d;" + d), 3, p.length() + 7);
        Check.land(x, d + p);
        C.dueFault("told in the LAND ahead of this one", x, Check.land(x, "near p d 1;"), 3, 5);
        C.dueFault("within its own PART", x, Check.land(x, "deed d rate 1 hard 3 near d d 1;"), 2, 21);
    }

    /** Told again: the latest; 5: odds, allow told already; near, done of what is DONE by him already. */
    private static void toldAgain() {
        String dp = "deed d rate 9 hard 4 cost 50;payer p house 1 purse 7;";
        int at = dp.length();
        C.due("near 3, near 1", Check.landOf(dp + "near p d 3;near p d 1;").near(0, 0), 1);
        C.due("near 1, near 3", Check.landOf(dp + "near p d 1;near p d 3;").near(0, 0), 3);
        C.due("near 3, near 0", Check.landOf(dp + "near p d 3;near p d 0;").near(0, 0), 0);
        C.due("near 2, near 2", Check.landOf(dp + "near p d 2;near p d 2;").near(0, 0), 2);
        AlmostTax x = Check.landOf(dp + "near p d 3;done p d;");
        C.due("near, then done", x.near(0, 0), 4);
        C.due("DONE at no COST, though the PURSE is less", x.payer(0, 1), 7);
        C.dueFault("done, then near", x, Check.land(x, dp + "done p d;near p d 1;"), 5, at + 9 + 7);
        C.dueFault("done, then near 0", x, Check.land(x, dp + "done p d;near p d 0;"), 5, at + 9 + 7);
        C.dueFault("done, then near of what can't be", x, Check.land(x, dp + "done p d;near p d 9;"), 5, at + 9 + 7);
        C.dueFault("done, then near without a NUMBER", x, Check.land(x, dp + "done p d;near p d;"), 5, at + 9 + 7);
        C.dueFault("done twice", x, Check.land(x, dp + "done p d;done p d;"), 5, at + 9 + 7);
        C.dueFault("near, done, near", x, Check.land(x, dp + "near p d 1;done p d;near p d 1;"), 5, at + 11 + 9 + 7);
        C.due("done by another", x, Check.land(x, dp + "payer q house 1;done p d;near q d 1;done q d;"), 2, 0);
        C.due("another done by him", x, Check.land(x, dp + "deed e rate 1 hard 1 cost 1;done p d;done p e;"), 1, 0);
        C.due("HARD 1: done", x.near(0, 1), 1);
        C.due("HARD 1: near 0", x, Check.land(x, "deed e rate 1 hard 1 cost 1;payer p house 1;near p e 0;"), 1, 0);
        C.dueFault("HARD 1: near 1", x, Check.land(x, "deed e rate 1 hard 1 cost 1;payer p house 1;near p e 1;"), 4, 53);
        C.dueFault("odds twice", x, Check.land(x, "odds 1;odds 1;"), 5, 7);
        C.dueFault("allow twice", x, Check.land(x, "allow 1;allow 1;"), 5, 8);
        C.dueFault("odds twice, at that WORD", x, Check.land(x, "odds 1;allow 1; odds"), 5, 16);
        C.dueFault("allow twice, at that WORD", x, Check.land(x, "allow 0;odds 1;allow 99;"), 5, 15);
        C.due("odds and allow, in either order", x, Check.land(x, "allow 7;odds 1;"), 0, 0);
        C.due("told anew in another LAND", x, Check.land(x, "odds 1;allow 7;"), 0, 0);
    }

    private static String deeds(int many) {
        StringBuilder b = new StringBuilder();
        for (int i = 0; i < many; i++) {
            b.append("deed d").append((char) ('a' + i)).append(" rate 1 hard 2 cost 1;");
        }
        return b.toString();
    }

    private static String payers(int many) {
        StringBuilder b = new StringBuilder();
        for (int i = 0; i < many; i++) {
            b.append("payer p").append((char) ('a' + i)).append(" house 1;");
        }
        return b.toString();
    }

    /** DEEDS, at most 7; PAYERS, at most 6; 6: an eighth deed, a seventh payer (at that WORD). */
    private static void tooMany() {
        AlmostTax x = new AlmostTax();
        C.due("7 DEEDS and 6 PAYERS", x, Check.land(x, deeds(7) + payers(6)), 6, 0);
        C.due("7 DEEDS", x.many(0), 7);
        for (int p = 0; p < 6; p++) {
            for (int d = 0; d < 7; d++) {
                String near = "near p" + (char) ('a' + p) + " d" + (char) ('a' + d) + " 1;";
                x = Check.landOf(deeds(7) + payers(6) + near);
                C.due(near, x.near(p, d), 1);
                C.due("and of none else, " + near, x.many(8), 63 - (1 << p));
            }
        }
        C.dueFault("an eighth DEED", x, Check.land(x, deeds(8)), 6, deeds(7).length());
        C.dueFault("a seventh PAYER", x, Check.land(x, payers(7)), 6, payers(6).length());
        C.dueFault("an eighth DEED behind PAYERS", x, Check.land(x, deeds(7) + payers(6) + " deed x"), 6,
            deeds(7).length() + payers(6).length() + 1);
        C.dueFault("a seventh PAYER, of a taken NAME", x, Check.land(x, payers(6) + "payer pa house 1;"), 6, payers(6).length());
        C.due("the old one stays", x.many(1), 6);
    }

    /** Of one TOKEN the least kind. */
    private static void leastKindOfOneToken() {
        AlmostTax x = new AlmostTax();
        String any30 = "any;".repeat(30);
        C.dueFault("1 ahead of 2: no NUMBER may stand there", x, Check.land(x, "payer 00000;"), 1, 6);
        C.dueFault("1 ahead of 2: nothing may stand there", x, Check.decades(x, "any !;"), 1, 4);
        C.dueFault("1 ahead of 6", x, Check.decades(x, any30 + "Any;"), 1, 120);
        C.dueFault("2 ahead of 3: of 9 letters, told nowhere", x, Check.land(x, deeds(1) + payers(1) + "near abcdefghi da 1;"), 2,
            deeds(1).length() + payers(1).length() + 5);
        C.dueFault("2 ahead of 6: what can't stand there", x, Check.decades(x, any30 + "odds 3;"), 2, 120);
        C.dueFault("2 ahead of 6: an end without a beginning", x, Check.decades(x, any30 + "end;"), 2, 120);
        C.dueFault("6 ahead of 7: a 31st within three others", x,
            Check.decades(x, "loop 1;".repeat(3) + "any;".repeat(27) + "loop 1;end;end;end;end;"), 6, 129);
        C.dueFault("7: a 30th within three others", x,
            Check.decades(x, "loop 1;".repeat(3) + "any;".repeat(26) + "loop 1;end;end;end;end;"), 7, 125);
    }

    /** FAULTS, the first along the text. */
    private static void firstAlongTheText() {
        AlmostTax x = new AlmostTax();
        C.dueFault("4 ahead of 1", x, Check.land(x, "odds 17 !"), 4, 5);
        C.dueFault("1 ahead of 4", x, Check.land(x, "odds ! 17"), 1, 5);
        C.dueFault("2 ahead of 1", x, Check.land(x, "odds odds !"), 2, 5);
        C.dueFault("3 ahead of 2", x, Check.land(x, "near p"), 3, 5);
        C.dueFault("5 ahead of 4", x, Check.land(x, "odds 1;odds 17;"), 5, 7);
        C.dueFault("6 ahead of 1", x, Check.land(x, payers(6) + "payer !"), 6, payers(6).length());
        C.dueFault("3 ahead of 5", x, Check.land(x, "odds 1;near p d 1;odds 1;"), 3, 12);
        C.dueFault("7 ahead of 2", x, Check.decades(x, "loop 1;loop 1;loop 1;loop"), 7, 21);
        C.dueFault("4 ahead of 7", x, Check.decades(x, "loop 1;loop 1;loop 0;loop 1;"), 4, 19);
        C.dueFault("2, the end, behind all else", x, Check.land(x, "odds 1; allow 40 \n "), 2, 19);
    }

    // ---- STEPS

    /** 6: a 31st of the STEPS (at its WORD; end is none). */
    private static void tooManySteps() {
        AlmostTax x = new AlmostTax();
        C.due("30 of the STEPS", x, Check.decades(x, "any;".repeat(30)), 30, 0);
        C.dueFault("a 31st", x, Check.decades(x, "any;".repeat(31)), 6, 120);
        C.dueFault("a 31st, at its WORD, whatever is behind", x, Check.decades(x, "any;".repeat(30) + " year 0"), 6, 121);
        for (String word : "step shrink year rate any when loop stop".split(" ")) {
            C.dueFault("a 31st: " + word, x, Check.decades(x, "any;".repeat(30) + word), 6, 120);
        }
        C.due("when, loop are of the STEPS", x, Check.decades(x, "loop 1;".repeat(3) + "any;".repeat(27) + "end;".repeat(3)), 30, 0);
        C.dueFault("a 31st within them", x, Check.decades(x, "loop 1;".repeat(3) + "any;".repeat(28) + "end;".repeat(3)), 6, 129);
        C.due("end is none", x, Check.decades(x, "loop1;end;".repeat(27) + "any;any;"), 29, 0);
        // 30 beginnings with 30 ends are the most lines there can be; loop1;end; has 10 bytes
        C.due("30 beginnings, 30 ends", x, Check.decades(x, "loop1;end;".repeat(30)), 30, 0);
        C.due("they are lived", x, x.live(0), 30, 0);
        C.dueFault("a 31st behind 29 ends", x, Check.decades(x, "loop1;end;".repeat(29) + "any;stop;"), 6, 294);
    }

    /** 7: a when, loop within three others (at its WORD). */
    private static void tooDeep() {
        String[] open = {"loop 1;", "when owes pa;"};
        for (int kinds = 0; kinds < 16; kinds++) {
            AlmostTax x = Check.landOf(TOLD);
            String three = open[kinds & 1] + open[kinds >> 1 & 1] + open[kinds >> 2 & 1];
            String fourth = open[kinds >> 3];
            C.due("three deep", x, Check.decades(x, three + "any;end;" + "end;end;"), 4, 0);
            C.dueFault("four deep", x, Check.decades(x, three + fourth + "end;end;end;end;"), 7, three.length());
            C.dueFault("four deep behind another", x, Check.decades(x, three + "any; " + fourth + "end;end;end;end;"), 7,
                three.length() + 5);
            C.due("behind an end there is room again", x, Check.decades(x, three + "end;" + fourth + "end;end;end;"), 4, 0);
        }
        AlmostTax x = new AlmostTax();
        C.dueFault("at its WORD, whatever is behind", x, Check.decades(x, "loop 1;loop 1;loop 1;when 5"), 7, 21);
        Check.decades(x, "loop 1;loop 1;loop 1;loop 1;");
        C.due("what was open is closed in the next text", x, Check.decades(x, "loop 1;loop 1;loop 1;end;end;end;"), 3, 0);
        Check.decades(x, "loop 1;");
        C.dueFault("an end of what was open in another text", x, Check.decades(x, "end;"), 2, 0);
    }

    /** An end without a beginning; the text's end ahead of an end: 2. */
    private static void ends() {
        AlmostTax x = Check.landOf(TOLD);
        C.dueFault("an end alone", x, Check.decades(x, "end;"), 2, 0);
        C.dueFault("an end behind any", x, Check.decades(x, "any; end;"), 2, 5);
        C.dueFault("an end too many", x, Check.decades(x, "loop 1;end;end;"), 2, 11);
        C.dueFault("an end too many, deeper", x, Check.decades(x, "loop 1;when owes pa;end;end;end;"), 2, 28);
        C.dueFault("no end of a loop", x, Check.decades(x, "loop 1;any;"), 2, 11);
        C.dueFault("no end of a when", x, Check.decades(x, "when owes pa; "), 2, 14);
        C.dueFault("one end of two", x, Check.decades(x, "loop 1;loop 1;end;\n\n"), 2, 20);
        C.dueFault("an end that is not closed", x, Check.decades(x, "loop 1;end"), 2, 10);
        C.dueFault("end in place of a NAME", x, Check.decades(x, "loop 1;step end;"), 2, 12);
        C.dueFault("end in a LAND", x, Check.land(x, "odds 1;end;"), 2, 7);
        C.due("an end at once", x, Check.decades(x, "loop 1;end;when owes pa;end;"), 2, 0);
    }

    // ---- lengths

    private static String filled(String text, int length) {
        return text + " ".repeat(length - text.length());
    }

    /** A LAND is a TEXT of at most 900 bytes; land(n): 5 (the tape stays), 10 (it is empty). */
    private static void lengthsOfLand() {
        AlmostTax x = new AlmostTax();
        C.due("an empty tape", x, x.land(0), 0, 0);
        C.due("more than an empty tape", x, x.land(1), -1, 5);
        C.due("blanks alone", x, Check.land(x, " \n "), 0, 0);
        String full = filled(deeds(7) + payers(6), 894);
        C.due("900 bytes, to the last", x, Check.land(x, full + "odds3;"), 6, 0);
        C.due("the last counts", x.many(2), 3);
        C.dueFault("900 bytes, the end", x, Check.land(x, full + "odds 3"), 2, 900);
        C.dueFault("900 bytes, the last a fault", x, Check.land(x, full + "     !"), 1, 899);
        C.due("its LAND stays", x.many(1), 6);
        Check.feed(x, "odds 5;payer p house 4;");
        for (int bad : new int[] {-1, 41, 900, 901, Integer.MIN_VALUE, Integer.MAX_VALUE}) {
            C.due("land(" + bad + ") of 40 bytes", x, x.land(bad), -1, 5);
        }
        C.due("the LAND stays with 5", x.many(1), 6);
        C.due("the tape stays with 5", x, x.land(40), 1, 0);
        C.due("it is empty with 0", x, x.land(1), -1, 5);
        Check.land(x, "odds 5");
        C.due("it is empty with 10", x, x.land(1), -1, 5);
        C.due("the empty LAND", x, x.land(0), 0, 0);
        C.due("nobody", x.many(1), 0);
        C.due("nothing", x.many(0), 0);
        C.due("ODDS 8", x.many(2), 8);
    }

    /** DECADES are a TEXT of at most 300 bytes; decades(n): 5: above 300, too. */
    private static void lengthsOfDecades() {
        AlmostTax x = new AlmostTax();
        C.due("more than an empty tape", x, x.decades(1), -1, 5);
        C.due("an empty tape", x, x.decades(0), 0, 0);
        C.due("blanks alone", x, Check.decades(x, "\n  "), 0, 0);
        C.due("300 bytes, to the last", x, Check.decades(x, filled("any;", 295) + "stop;"), 2, 0);
        C.dueFault("300 bytes, the end", x, Check.decades(x, filled("any;", 297) + "any"), 2, 300);
        C.dueFault("300 bytes, the last a fault", x, Check.decades(x, filled("any;", 299) + "!"), 1, 299);
        Check.feed(x, filled("any;any;", 320));
        for (int bad : new int[] {-1, 301, 320, 321, 900, Integer.MIN_VALUE, Integer.MAX_VALUE}) {
            C.due("decades(" + bad + ") of 320 bytes", x, x.decades(bad), -1, 5);
        }
        C.due("the DECADES stay with 5", x, x.live(0), 2, 0);
        C.due("the tape stays with 5", x, x.decades(4), 1, 0);
        C.due("it is empty with 0", x, x.decades(1), -1, 5);
        Check.decades(x, "any");
        C.due("it is empty with 10", x, x.decades(1), -1, 5);
        Check.feed(x, "any;any;");
        C.due("300 of a tape of 20", x, x.decades(300), -1, 5);
        C.due("21 of a tape of 20", x, x.decades(21), -1, 5);
        C.due("20 of a tape of 20", x, x.decades(20), 2, 0);
    }

    /** The first n bytes of the tape. */
    private static void firstBytesOfTheTape() {
        AlmostTax x = new AlmostTax();
        Check.feed(x, "odds 16;");
        C.dueFault("a NUMBER cut by n: 1, then the end", x, x.land(6), 2, 6);
        Check.feed(x, "odds 1;x");
        C.due("what is behind n is not read", x, x.land(7), 0, 0);
        C.due("odds 1", x.many(2), 1);
        Check.feed(x, "payer abcdefghijk");
        C.dueFault("a WORD cut by n to 8 letters", x, x.land(14), 2, 14);
        Check.feed(x, "odds 00012");
        C.dueFault("a NUMBER cut by n to 4 digits", x, x.land(9), 2, 9);
        Check.feed(x, "odds  3;");
        C.dueFault("blanks cut by n", x, x.land(5), 2, 5);
        Check.feed(x, "any;any;");
        C.due("of DECADES, too", x, x.decades(4), 1, 0);
        Check.feed(x, "any;year 20;");
        C.dueFault("a NUMBER of DECADES cut by n", x, x.decades(10), 2, 10);
    }

    /** Twenty bytes come behind those on the tape, the highest of each int first; NONE if there would be more than 900. */
    private static void feed() {
        AlmostTax x = new AlmostTax();
        // "allow 10;odds 9;    ", each int of four other bytes
        C.due("feed", x.feed(0x616c6c6f, 0x77203130, 0x3b6f6464, 0x7320393b, 0x20202020), 20);
        C.due("land(16)", x, x.land(16), 0, 0);
        C.due("allow 10", x.many(3), 10);
        C.due("odds 9", x.many(2), 9);
        C.due("the highest bit is a bit as any other", x.feed(0xff202020, -1, -1, -1, -1), 20);
        C.dueFault("byte 255", x, x.land(1), 1, 0);
        int blanks = 0x20202020;
        C.due("many(99)", x, x.many(99), -1, 5);
        for (int i = 1; i <= 44; i++) {
            C.due("feed " + i, x.feed(blanks, blanks, blanks, blanks, blanks), 20 * i);
        }
        // "odds 12;" at the tape's end
        C.due("feed 45", x.feed(blanks, blanks, blanks, 0x6f646473, 0x2031323b), 900);
        C.due("feed 46", x.feed(-1, -1, -1, -1, -1), -1);
        C.due("feed 47", x.feed(0, 0, 0, 0, 0), -1);
        C.due("feed has no STATUS", x.status(), 5);
        C.due("the tape is as it was, to its end", x, x.land(900), 0, 0);
        C.due("odds 12", x.many(2), 12);
        C.due("there is room again", x.feed(blanks, blanks, blanks, blanks, blanks), 20);
    }

    // ---- what becomes of the old one

    /** land(), decades() with 10: the old one stays. */
    private static void oldOneStays() {
        AlmostTax x = Check.landOf("odds 3;allow 2;" + TOLD + "near pa da 3;");
        x.year(5);
        Check.decades(x, "year 3;year 4;");
        int paid = x.many(5);
        C.due("a LAND with a FAULT at its end", x, Check.land(x, "odds 9;allow 9;deed x rate 9 hard 9 cost 9;payer y house 9;!"), -1, 10);
        C.due("ODDS stay", x.many(2), 3);
        C.due("ALLOWANCE stays", x.many(3), 2);
        C.due("the YEAR stays", x.many(4), 5);
        C.due("PAID stays", x.many(5), paid);
        C.due("DEEDS stay", x.many(0), 1);
        C.due("RATE stays", x.deed(0, 0), 10);
        C.due("NEAR stays", x.near(0, 0), 3);
        C.due("its DECADES stay", x, Check.decades(x, "any;any;any;!"), -1, 10);
        C.due("the DECADES stay with 10", x, x.live(0), 2, 0);
        C.due("as they were", x.lived(1), 7);
        C.due("NAMES stay", x, Check.decades(x, "step pa da;"), 1, 0);
        C.dueFault("NAMES of what was refused are none", x, Check.decades(x, "step y x;"), 3, 5);
        C.due("the LAND goes on", x.many(4), 12);
    }

    /** A LAND that is taken: YEAR 0, nobody has PAID, OWES; there are no DECADES. */
    private static void aNewLand() {
        AlmostTax x = Check.landOf("odds 3;allow 2;deed d rate 60 hard 2 cost 0;payer p house 1 purse 5 wage 1;near p d 1;");
        Check.decades(x, "year 3;");
        x.live(0);
        C.due("YEAR 3", x.many(4), 3);
        C.due("PAID", x.many(5) > 0, true);
        C.due("OWES", x.many(6) > 0, true);
        C.due("a new LAND", x, Check.land(x, "deed d rate 60 hard 2 cost 0;payer p house 1;"), 1, 0);
        C.due("YEAR 0", x.many(4), 0);
        C.due("nobody has PAID", x.payer(0, 3), 0);
        C.due("nobody OWES", x.payer(0, 4), 0);
        C.due("nobody is near", x.near(0, 0), 0);
        C.due("ODDS 8 again", x.many(2), 8);
        C.due("ALLOWANCE 0 again", x.many(3), 0);
        C.due("PURSE 50 again", x.payer(0, 1), 50);
        C.due("no DECADES: live()", x, x.live(0), -1, 8);
        C.due("no DECADES: mean()", x, x.mean(0, 1), false, 8);
        aNewLandBehindMeansAndGames();
    }

    /** Means and games are tried in a LAND aside; nothing of these may come to the next one. */
    private static void aNewLandBehindMeansAndGames() {
        AlmostTax x = Check.landOf("odds 3;allow 2;deed d rate 60 hard 2 cost 0;payer p house 1 purse 5 wage 1;payer q house 1;near p d 1;near q d 1;");
        x.year(3);
        Check.decades(x, "year 20;");
        x.mean(0, 2);
        x.game(0, 1, 4);
        C.due("a new LAND", x, Check.land(x, "deed d rate 60 hard 2 cost 0;payer p house 1;"), 1, 0);
        x.come(7);
        C.due("YEAR 0", x.many(4), 0);
        for (int p = 0; p < 2; p++) {
            C.due("has PAID nothing", x.payer(p, 3), 0);
            C.due("OWES nothing", x.payer(p, 4), 0);
            C.due("is near to nothing", x.near(p, 0), 0);
        }
        x.year(1);
        Check.decades(x, "year 20;");
        x.mean(0, 2);
        Check.land(x, "");
        C.due("YEAR 0 of the empty LAND", x.many(4), 0);
        C.due("nobody has PAID", x.many(5), 0);
        C.due("no DECADES", x, x.live(0), -1, 8);
    }

    /** fault(): of the latest of these with STATUS 0 or 10; NONE for others, and ahead of any. */
    private static void faultTells() {
        AlmostTax x = new AlmostTax();
        C.due("fault(0) ahead of any", x.fault(0), -1);
        C.due("fault(1) ahead of any", x.fault(1), -1);
        x.land(1);
        x.decades(1);
        C.due("fault(0) behind 5 alone", x.fault(0), -1);
        C.due("fault(1) behind 5 alone", x.fault(1), -1);
        x.land(0);
        C.due("fault(0) without one", x.fault(0), 0);
        C.due("fault(1) without one", x.fault(1), -1);
        Check.decades(x, "!");
        C.due("fault(0) of decades()", x.fault(0), 1);
        C.due("place 0 is a place", x.fault(1), 0);
        x.land(1);
        C.due("5 leaves the FAULT", x.fault(0), 1);
        C.due("5 leaves its place", x.fault(1), 0);
        Check.land(x, "odds 17;");
        C.due("fault(0) of land()", x.fault(0), 4);
        C.due("fault(1) of land()", x.fault(1), 5);
        x.many(0);
        x.back();
        C.due("other calls leave it", x.fault(0), 4);
        for (int other : new int[] {-1, 2, Integer.MIN_VALUE, Integer.MAX_VALUE}) {
            C.due("fault(" + other + ")", x.fault(other), -1);
        }
        C.due("fault() has no STATUS", x.status(), 8);
        Check.decades(x, "any;");
        C.due("none of the latest", x.fault(0), 0);
        C.due("no place", x.fault(1), -1);
    }
}
