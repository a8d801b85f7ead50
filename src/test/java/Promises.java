/** For each promise of the document: ordinary inputs, the edges that it names, and wrong inputs. */
public final class Promises {
    private static final Check C = new Check();
    private static final int MIN = Integer.MIN_VALUE;
    private static final int MAX = Integer.MAX_VALUE;

    /** ring: rate 18, hard 3, cost 20; sea: 30, 6, 60; book: 40, 5, 8. */
    private static final String LAND = "odds 4;allow 3;deed ring rate 18 hard 3 cost 20;deed sea rate 30 hard 6 cost 60;"
        + "deed book rate 40 hard 5 cost 8;payer ned house 10 purse 30 wage 5;payer oz house 40;"
        + "payer pia house 12 purse 5 wage 0;near ned ring 2;near ned sea 3;near oz book 4;near oz ring 1;"
        + "near pia sea 1;done pia ring;";

    private static AlmostTax land() {
        return Check.landOf(LAND);
    }

    public static void main(String[] args) {
        p1NewObject();
        p2To4StatusAndFraction();
        p5Tray();
        p6p7WriteRead();
        p8Pour();
        p9Feed();
        p10Land();
        p10Tokens();
        p10Faults();
        p11Decades();
        p11Faults();
        p12Fault();
        p13Many();
        p14Deed();
        p15Payer();
        p16p17NearPart();
        p18CopyTax();
        p19Step();
        p20Shrink();
        p21Year();
        p22Price();
        p23Hire();
        p24Forgive();
        p25Come();
        p26Dream();
        p27Rule();
        p28p29Plan();
        p30Lure();
        p31OwesIn();
        p32p33Fits();
        p34Sure();
        p35Ask();
        p36p37RoundsCrew();
        p38Split();
        p39p40Help();
        p41Game();
        p42MoveOf();
        p43Luck();
        p44Bears();
        p45p46Live();
        p45Draws();
        p45Limits();
        p47Mean();
        p48p49Marks();
        C.finish();
    }

    private static void p1NewObject() {
        AlmostTax x = new AlmostTax();
        C.due("NONE", AlmostTax.NONE, -1);
        C.due("status()", x.status(), 0);
        C.due("top()", x.top(), 0);
        C.due("bottom()", x.bottom(), 1);
        C.due("fault(0)", x.fault(0), -1);
        C.due("fault(1)", x.fault(1), -1);
        for (int what = 0; what < 10; what++) {
            C.due("many " + what, x, x.many(what), what == 2 ? 8 : 0, 0);
        }
        for (int t = 0; t < 4; t++) {
            C.due("read " + t, x, x.read(t, 0), -1, 3);
        }
        C.due("live", x, x.live(0), -1, 8);
        C.due("back", x, x.back(), -1, 8);
        C.due("feed", x.feed(0, 0, 0, 0, 0), 20);
        C.due("land 21 of a tape of 20", x, x.land(21), -1, 5);
    }

    private static void p2To4StatusAndFraction() {
        AlmostTax x = land();
        C.due("many(10)", x, x.many(10), -1, 5);
        x.fault(0);
        x.feed(1, 2, 3, 4, 5);
        x.top();
        x.bottom();
        C.due("calls without a status leave it", x.status(), 5);
        C.due("many(0)", x, x.many(0), 3, 0);
        C.dueFraction("split(0, 0)", x, x.split(0, 0), 2, 3);
        C.due("split of no payer", x, x.split(9, 0), false, 2);
        C.due("top() stays", x.top(), 2);
        C.due("bottom() stays", x.bottom(), 3);
        C.dueFraction("0 is 0 by 1", x, x.split(0, 2), 0, 1);
        C.dueFraction("without a common divisor", x, x.split(1, 0), 1, 3);
        C.dueFraction("the whole", x, x.split(1, 2), 1, 1);
    }

    private static void p5Tray() {
        AlmostTax x = new AlmostTax();
        C.due("tray(0, 0, 60)", x, x.tray(0, 0, 60), true, 0);
        C.due("read the last", x, x.read(0, 59), 0, 0);
        C.due("read beyond", x, x.read(0, 60), -1, 4);
        C.due("tray(3, 3, 0)", x, x.tray(3, 3, 0), true, 0);
        C.due("tray of 61", x, x.tray(0, 0, 61), false, 5);
        C.due("tray of -1", x, x.tray(0, 0, -1), false, 6);
        C.due("tray of MIN", x, x.tray(0, 0, MIN), false, 6);
        C.due("tray of MAX", x, x.tray(0, 0, MAX), false, 5);
        for (int bad : new int[] {-1, 4, MIN, MAX}) {
            C.due("tray " + bad, x, x.tray(bad, 0, 61), false, 1);
            C.due("sort " + bad, x, x.tray(0, bad, -1), false, 1);
        }
        C.due("the tray is as it was", x, x.read(0, 59), 0, 0);
        x.write(0, 59, 7);
        C.due("laid anew", x, x.tray(0, 1, 60), true, 0);
        C.due("all 0", x, x.read(0, 59), 0, 0);
    }

    private static void p6p7WriteRead() {
        AlmostTax x = new AlmostTax();
        long[] cut = {0x78L, 0x5678L, 0x12345678L, 0x7abcdef012345678L};
        for (int t = 0; t < 4; t++) {
            x.tray(t, t, 2);
            C.due("write", x, x.write(t, 1, 0x7abcdef012345678L), true, 0);
            C.due("cut to sort " + t, x, x.read(t, 1), cut[t], 0);
            C.due("write -1", x, x.write(t, 1, -1L), true, 0);
            C.due("with sign", x, x.read(t, 1), -1, 0);
            long edge = 1L << (8 << t) - 1;
            x.write(t, 0, edge);
            C.due("the highest bit is the sign", x, x.read(t, 0), -edge < 0 ? -edge : edge, 0);
        }
        for (int bad : new int[] {-1, 2, MIN, MAX}) {
            C.due("write to place " + bad, x, x.write(1, bad, 5), false, 4);
            C.due("read place " + bad, x, x.read(1, bad), -1, 4);
        }
        C.due("write to no tray", x, x.write(4, 0, 5), false, 1);
        C.due("read no tray", x, x.read(-1, 9), -1, 1);
        AlmostTax y = new AlmostTax();
        C.due("write to what is missing", y, y.write(2, -1, 5), false, 3);
    }

    private static void p8Pour() {
        AlmostTax x = new AlmostTax();
        x.tray(0, 1, 5);
        for (int i = 0; i < 5; i++) {
            x.write(0, i, i + 1);
        }
        x.tray(1, 1, 3);
        x.tray(2, 2, 3);
        C.due("pour", x, x.pour(0, 2, 1, 0, 3), true, 0);
        C.due("poured", x.read(1, 0) * 100 + x.read(1, 1) * 10 + x.read(1, 2), 345);
        C.due("pour in itself", x, x.pour(0, 0, 0, 1, 4), true, 0);
        C.due("as they were", x.read(0, 0) * 1000 + x.read(0, 1) * 100 + x.read(0, 2) * 10 + x.read(0, 4), 1124);
        C.due("pour backwards", x, x.pour(0, 1, 0, 0, 4), true, 0);
        C.due("as they were", x.read(0, 0) * 100 + x.read(0, 3) * 10 + x.read(0, 4), 144);
        C.due("nothing, at the end", x, x.pour(0, 5, 1, 3, 0), true, 0);
        C.due("no tray", x, x.pour(4, 0, 3, 0, -1), false, 1);
        C.due("to no tray", x, x.pour(3, 0, -1, 0, -1), false, 1);
        C.due("missing", x, x.pour(3, 0, 0, 0, -1), false, 3);
        C.due("to what is missing", x, x.pour(0, 0, 3, 0, -1), false, 3);
        C.due("unlike", x, x.pour(0, -1, 2, 0, -1), false, 11);
        C.due("below 0", x, x.pour(0, -1, 1, 0, -1), false, 6);
        C.due("from no place", x, x.pour(0, -1, 1, 0, 1), false, 4);
        C.due("to no place", x, x.pour(0, 0, 1, -1, 1), false, 4);
        C.due("too few", x, x.pour(0, 3, 1, 0, 3), false, 4);
        C.due("too few there", x, x.pour(0, 0, 1, 1, 3), false, 4);
        C.due("far too many", x, x.pour(0, 1, 1, 1, MAX), false, 4);
        C.due("from far off", x, x.pour(0, MAX, 1, 0, 1), false, 4);
    }

    private static void p9Feed() {
        AlmostTax x = new AlmostTax();
        for (int i = 1; i <= 45; i++) {
            C.due("feed " + i, x.feed(0x20202020, 0x20202020, 0x20202020, 0x20202020, 0x20202020), 20 * i);
        }
        C.due("one feed more", x.feed(0, 0, 0, 0, 0), -1);
        C.due("feed has no status", x.status(), 0);
        C.due("the tape has 900", x, x.land(901), -1, 5);
        C.due("all blanks", x, x.land(900), 0, 0);
        C.due("the tape is empty then", x, x.land(1), -1, 5);
        C.due("the highest byte first", x.feed(0x6f646473, 0x20353b20, 0x20202020, 0x20202020, 0x20202020), 20);
        C.due("odds 5;", x, x.land(7), 0, 0);
        C.due("many(2)", x.many(2), 5);
    }

    private static void p10Land() {
        AlmostTax x = land();
        C.due("payers", x.many(1), 3);
        x.year(1);
        Check.decades(x, "any;");
        C.due("a land anew", x, Check.land(x, "payer a house 0;payer b house 99 wage 50;"), 2, 0);
        C.due("year 0", x.many(4), 0);
        C.due("nobody paid", x.many(5), 0);
        C.due("nobody owes", x.many(6), 0);
        C.due("odds 8 without", x.many(2), 8);
        C.due("no allowance without", x.many(3), 0);
        C.due("no decades", x, x.live(0), -1, 8);
        C.due("purse 50 without", x.payer(1, 1), 50);
        C.due("wage told", x.payer(1, 2), 50);
        C.due("wage 10 without", x.payer(0, 2), 10);
        C.due("below 0", x, x.land(-1), -1, 5);
        C.due("MIN", x, x.land(MIN), -1, 5);
        C.due("of an empty tape", x, x.land(1), -1, 5);
        Check.feed(x, "odds 3;");
        C.due("beyond the tape", x, x.land(21), -1, 5);
        C.due("which stays with 5", x, x.land(7), 0, 0);
        C.due("nobody", x.many(1), 0);
        C.due("the empty land", x, x.land(0), 0, 0);
        C.due("odds again 8", x.many(2), 8);
        x = land();
        C.due("a fault", x, Check.land(x, "payer a house 1; payer"), -1, 10);
        C.due("the old one stays", x.many(1), 3);
        C.due("its tax too", x.many(7), 61);
        C.due("the tape is empty", x, x.land(1), -1, 5);
        C.due("near again: the latest", Check.landOf("deed d rate 9 hard 9 cost 0;payer p house 1;near p d 8;near p d 3;").near(0, 0), 3);
        x = Check.landOf("deed d rate 9 hard 9 cost 99;payer p house 1 purse 7;near p d 8;done p d;");
        C.due("done behind near", x.near(0, 0), 9);
        C.due("done at no cost", x.payer(0, 1), 7);
        x = land();
        x.mark();
        Check.land(x, "");
        C.due("marks stay", x, x.back(), 0, 0);
        C.due("the land of the mark", x.many(1), 3);
    }

    private static void p10Tokens() {
        AlmostTax x = new AlmostTax();
        C.due("no blanks", x, Check.land(x, "odds16;allow40;payer a house0purse999wage0;"), 1, 0);
        C.due("odds16", x.many(2), 16);
        C.due("allow40", x.many(3), 40);
        C.due("purse999", x.payer(0, 1), 999);
        C.due("wage0", x.payer(0, 2), 0);
        C.due("many blanks", x, Check.land(x, " \n odds \n 0016 ;\n\n"), 0, 0);
        C.due("0016", x.many(2), 16);
        C.due("names of 1 and 8 letters", x, Check.land(x, "payer a house 1;payer abcdefgh house 2;"), 2, 0);
        C.due("names near to words", x, Check.land(x, "payer od house 1;payer oddss house 2;payer endx house 3;"), 3, 0);
        C.due("names alike but for their end", x, Check.land(x, "payer abcdefgh house 1;payer abcdefgi house 2;payer abcdefg house 2;"), 3, 0);
        StringBuilder text = new StringBuilder("payer a house 7;");
        while (text.length() < 900) {
            text.append(' ');
        }
        C.due("900 bytes", x, Check.land(x, text.toString()), 1, 0);
    }

    private static void landFault(String text, int kind, int place) {
        AlmostTax x = land();
        C.dueFault(text, x, Check.land(x, text), kind, place);
        C.due("payers stay behind " + text, x.many(1), 3);
    }

    private static void p10Faults() {
        landFault("odds 3; !", 1, 8);
        landFault("odds 12345;", 1, 5);
        landFault("12345", 1, 0);
        landFault("odds A;", 1, 5);
        landFault("odds\t3;", 1, 4);
        landFault("odds 3;\u00ff", 1, 7);
        landFault("odds 3;\u0000", 1, 7);
        landFault("odds -3;", 1, 5);
        landFault("go;", 2, 0);
        landFault(";", 2, 0);
        landFault("12;", 2, 0);
        landFault("rate d 5;", 2, 0);
        landFault("odds", 2, 4);
        landFault("odds  ", 2, 6);
        landFault("odds 3", 2, 6);
        landFault("odds 3 4;", 2, 7);
        landFault("odds three;", 2, 5);
        landFault("odds <;", 2, 5);
        landFault("allow;", 2, 5);
        landFault("deed 5;", 2, 5);
        landFault("deed ninelette rate 1 hard 1 cost 1;", 2, 5);
        landFault("payer ninelette house 1;", 2, 6);
        landFault("deed ring hard 3 rate 1 cost 1;", 2, 10);
        landFault("payer a house 1 wage 3 purse 4;", 2, 23);
        landFault("payer a purse 4;", 2, 8);
        for (String word : "odds allow deed rate hard cost payer house purse wage near done step shrink year any when owes loop end stop".split(" ")) {
            landFault("payer " + word + " house 1;", 2, 6);
            landFault("deed " + word + " rate 1;", 2, 5);
        }
        landFault("payer a house 1;payer a house 2;", 3, 22);
        landFault("payer a house 1;deed a rate 2;", 3, 21);
        landFault("deed a rate 1 hard 1 cost 1;payer a house 1;", 3, 34);
        landFault("deed a rate 1 hard 1 cost 1;deed a rate 1 hard 1 cost 1;", 3, 33);
        String two = "deed d rate 1 hard 3 cost 1;payer p house 1;";
        landFault(two + "near q d 1;", 3, 49);
        landFault(two + "near d d 1;", 3, 49);
        landFault(two + "near p p 1;", 3, 51);
        landFault(two + "done p q;", 3, 51);
        landFault("near p d 1;" + two, 3, 5);
        landFault("odds 17;", 4, 5);
        landFault("allow 41;", 4, 6);
        landFault("deed a rate 61 hard 1 cost 1;", 4, 12);
        landFault("deed a rate 60 hard 0 cost 1;", 4, 20);
        landFault("deed a rate 60 hard 10 cost 1;", 4, 20);
        landFault("deed a rate 60 hard 9 cost 100;", 4, 27);
        landFault("payer a house 100;", 4, 14);
        landFault("payer a house 99 purse 1000;", 4, 23);
        landFault("payer a house 99 purse 999 wage 51;", 4, 32);
        landFault(two + "near p d 3;", 4, 53);
        landFault("deed d rate 1 hard 1 cost 1;payer p house 1;near p d 1;", 4, 53);
        landFault("odds 3;odds 3;", 5, 7);
        landFault("allow 3;odds 1;allow 99;", 5, 15);
        landFault(two + "done p d;near p d 1;", 5, 60);
        landFault(two + "done p d;done p d;", 5, 60);
        StringBuilder deeds = new StringBuilder();
        StringBuilder payers = new StringBuilder();
        for (char c = 'a'; c < 'h'; c++) {
            deeds.append("deed ").append(c).append(" rate 1 hard 1 cost 1;");
            if (c < 'g') {
                payers.append("payer ").append(c).append("x house 1;");
            }
        }
        AlmostTax x = new AlmostTax();
        C.due("seven and six", x, Check.land(x, deeds + payers.toString()), 6, 0);
        C.due("seven deeds", x.many(0), 7);
        landFault(deeds + "deed a;", 6, deeds.length());
        landFault(payers + "payer 5;", 6, payers.length());
        landFault("odds 17 !", 4, 5);
        landFault("odds x !", 2, 5);
    }

    private static void p11Decades() {
        AlmostTax x = land();
        C.due("steps", x, Check.decades(x, "step ned ring;loop 99;when near oz ring=9;year 20;end;end;stop;"), 5, 0);
        C.due("none", x, Check.decades(x, ""), 0, 0);
        C.due("an empty text is lived", x, x.live(5), 0, 0);
        C.due("three deep", x, Check.decades(x, "loop 1;when owes ned;loop 2;any;end;end;end;loop 1;end;"), 5, 0);
        C.due("30 steps", x, Check.decades(x, "any;".repeat(30)), 30, 0);
        String ends = "loop 1;end;".repeat(27);
        C.due("ends are no steps", x, Check.decades(x, ends), 27, 0);
        C.due("below 0", x, x.decades(-1), -1, 5);
        C.due("of an empty tape", x, x.decades(1), -1, 5);
        String blanks = " ".repeat(320);
        Check.feed(x, blanks);
        C.due("above 300", x, x.decades(301), -1, 5);
        C.due("300", x, x.decades(300), 0, 0);
        C.due("the tape is empty", x, x.decades(1), -1, 5);
        Check.decades(x, "any;any;");
        C.due("a fault", x, Check.decades(x, "any"), -1, 10);
        C.due("the tape is empty", x, x.decades(1), -1, 5);
        C.due("the old ones stay", x, x.live(1), 2, 0);
        x.come(5);
        x.dream(5, 5, 5);
        for (char c = 'a'; c <= 'z'; c++) {
            C.due("who came has no name", x, Check.decades(x, "step " + c + " ring;"), -1, 10);
            C.due("what is dreamt has none", x, Check.decades(x, "rate " + c + " 5;"), -1, 10);
        }
        C.due("names stay", x, Check.decades(x, "step oz ring;"), 1, 0);
    }

    private static void decadesFault(String text, int kind, int place) {
        AlmostTax x = land();
        C.dueFault(text, x, Check.decades(x, text), kind, place);
    }

    private static void p11Faults() {
        decadesFault("any;*", 1, 4);
        decadesFault("year 00001;", 1, 5);
        decadesFault("odds 3;", 2, 0);
        decadesFault("ned;", 2, 0);
        decadesFault("5;", 2, 0);
        decadesFault("any", 2, 3);
        decadesFault("any any;", 2, 4);
        decadesFault("end;", 2, 0);
        decadesFault("loop 2;end;end;", 2, 11);
        decadesFault("loop 2;any;", 2, 11);
        decadesFault("loop 2;any; ", 2, 12);
        decadesFault("when owes ned;end", 2, 17);
        decadesFault("step ninelette ring;", 2, 5);
        decadesFault("step ned end;", 2, 9);
        decadesFault("when near ned ring;end;", 2, 18);
        decadesFault("when near ned ring ; 3;end;", 2, 19);
        decadesFault("when purse ned ring > 3;end;", 2, 15);
        decadesFault("when step ned ring;end;", 2, 5);
        decadesFault("when done ned ring > 3;end;", 2, 19);
        decadesFault("when purse ned >> 3;end;", 2, 16);
        decadesFault("rate 5 ring;", 2, 5);
        decadesFault("step ring ring;", 3, 5);
        decadesFault("shrink ned oz;", 3, 11);
        decadesFault("rate ned 5;", 3, 5);
        decadesFault("when purse sea > 3;end;", 3, 11);
        decadesFault("when owes who;end;", 3, 10);
        decadesFault("year 0;", 4, 5);
        decadesFault("year 21;", 4, 5);
        decadesFault("rate ring 61;", 4, 10);
        decadesFault("when near ned ring = 10;end;", 4, 21);
        decadesFault("loop 0;end;", 4, 5);
        decadesFault("loop 100;end;", 4, 5);
        decadesFault("any;".repeat(30) + "any;", 6, 120);
        decadesFault("any;".repeat(30) + "loop 0;", 6, 120);
        decadesFault("loop 1;loop 1;loop 1;when 5;", 7, 21);
        decadesFault("loop 1;loop 1;loop 1;" + "any;".repeat(27) + "loop 5;", 6, 129);
        decadesFault("any;".repeat(30) + "end;", 2, 120);
        AlmostTax x = land();
        C.due("edges", x, Check.decades(x, "year 1;year 20;rate ring 0;rate ring 60;when near ned sea<0;end;"
            + "when near ned sea>9;end;when purse ned=9999;end;loop 1;end;loop 99;end;"), 9, 0);
    }

    private static void p12Fault() {
        AlmostTax x = new AlmostTax();
        x.land(5);
        C.due("ahead of any, 5 counts not", x.fault(0), -1);
        C.due("ahead of any", x.fault(1), -1);
        Check.land(x, "payer a house 5;");
        C.due("fault(0) without", x.fault(0), 0);
        C.due("fault(1) without", x.fault(1), -1);
        Check.decades(x, "any;go;");
        C.due("fault(0)", x.fault(0), 2);
        C.due("fault(1)", x.fault(1), 4);
        x.decades(700);
        C.due("5 leaves it", x.fault(1), 4);
        for (int other : new int[] {-1, 2, MIN, MAX}) {
            C.due("fault " + other, x.fault(other), -1);
        }
        Check.decades(x, "any;");
        C.due("a good one", x.fault(0), 0);
        C.due("its place", x.fault(1), -1);
    }

    private static void p13Many() {
        AlmostTax x = land();
        int[] due = {3, 3, 4, 3, 0, 0, 0, 61, 0, 85};
        for (int what = 0; what < 10; what++) {
            C.due("many " + what, x, x.many(what), due[what], 0);
        }
        x.year(2);
        // ned: 30 + 5 - 24 = 11, + 5 = 16 of 24; oz: 50 + 10 - 35 twice; pia: 5 - 2 - 2
        int[] later = {3, 3, 4, 3, 2, 24 + 16 + 70 + 4, 8, 61, 0, 0 + 0 + 1};
        for (int what = 0; what < 10; what++) {
            C.due("later many " + what, x, x.many(what), later[what], 0);
        }
        for (int bad : new int[] {-1, 10, MIN, MAX}) {
            C.due("many " + bad, x, x.many(bad), -1, 5);
        }
        x.shrink(2, 1);
        C.due("content: near to nothing but what is done", x.many(8), 4);
        x.come(1);
        C.due("content who came", x.many(8), 12);
    }

    private static void p14Deed() {
        AlmostTax x = land();
        int[] due = {18, 3, 20, 12, 4, 3};
        for (int what = 0; what < 6; what++) {
            C.due("deed 0 " + what, x, x.deed(0, what), due[what], 0);
        }
        C.due("full is rounded down", Check.landOf("deed d rate 60 hard 7 cost 0;").deed(0, 3), 51);
        C.due("full of hard 1", Check.landOf("deed d rate 60 hard 1 cost 0;").deed(0, 3), 0);
        for (int bad : new int[] {-1, 3, MIN, MAX}) {
            C.due("deed " + bad, x, x.deed(bad, 99), -1, 2);
        }
        for (int bad : new int[] {-1, 6, MIN, MAX}) {
            C.due("deed 0 " + bad, x, x.deed(0, bad), -1, 5);
        }
    }

    private static void p15Payer() {
        AlmostTax x = land();
        x.year(2);
        int[] due = {10, 0, 5, 40, 8, 24, 0, 3};
        for (int what = 0; what < 8; what++) {
            C.due("payer 0 " + what, x, x.payer(0, what), due[what], 0);
        }
        C.due("done set", x.payer(2, 6), 1);
        C.due("near set", x.payer(2, 7), 2);
        for (int bad : new int[] {-1, 3, MIN, MAX}) {
            C.due("payer " + bad, x, x.payer(bad, 99), -1, 2);
        }
        for (int bad : new int[] {-1, 8, MIN, MAX}) {
            C.due("payer 0 " + bad, x, x.payer(0, bad), -1, 5);
        }
    }

    private static void p16p17NearPart() {
        AlmostTax x = land();
        C.due("near", x, x.near(0, 1), 3, 0);
        C.due("near not at all", x, x.near(0, 2), 0, 0);
        C.due("hard if done", x, x.near(2, 0), 3, 0);
        C.due("part", x, x.part(0, 1), 15, 0);
        C.due("part of what is done", x, x.part(2, 0), 0, 0);
        C.due("part of nothing", x, x.part(2, 2), 0, 0);
        x = Check.landOf("deed d rate 10 hard 3 cost 0;payer p house 0;near p d 2;");
        C.due("rounded down", x.part(0, 0), 6);
        for (int bad : new int[] {-1, 3, MIN, MAX}) {
            C.due("near of payer " + bad, x, x.near(bad, 0), -1, 2);
            C.due("near of deed " + bad, x, x.near(0, bad), -1, 2);
            C.due("part of payer " + bad, x, x.part(bad, 0), -1, 2);
            C.due("part of deed " + bad, x, x.part(0, bad), -1, 2);
        }
    }

    private static void p18CopyTax() {
        AlmostTax x = land();
        x.tray(0, 2, 4);
        x.write(0, 3, 77);
        C.due("copyTax", x, x.copyTax(0), 3, 0);
        C.due("the first", x.read(0, 0), 24);
        C.due("the second", x.read(0, 1), 35);
        C.due("the third", x.read(0, 2), 2);
        C.due("what is behind stays", x.read(0, 3), 77);
        x.tray(1, 0, 3);
        C.due("just enough", x, x.copyTax(1), 3, 0);
        x.tray(1, 0, 2);
        C.due("too few", x, x.copyTax(1), -1, 4);
        C.due("nothing comes then", x.read(1, 0), 0);
        C.due("missing", x, x.copyTax(2), -1, 3);
        C.due("no tray", x, x.copyTax(4), -1, 1);
        C.due("no tray", x, x.copyTax(-1), -1, 1);
        x = Check.landOf("deed a rate 60 hard 9 cost 0;deed b rate 60 hard 9 cost 0;deed c rate 60 hard 9 cost 0;"
            + "payer p house 1;near p a 8;near p b 8;near p c 8;");
        x.tray(0, 0, 1);
        x.copyTax(0);
        C.due("159 cut to 8 bits", x.read(0, 0), 159 - 256);
    }

    private static void p19Step() {
        AlmostTax x = land();
        C.due("step", x, x.step(1, 0), 2, 0);
        C.due("its tax", x.payer(1, 5), 12 + 32 - 3);
        C.due("the last step", x, x.step(1, 0), 3, 0);
        C.due("its cost", x.payer(1, 1), 30);
        C.due("done", x.payer(1, 6), 1);
        C.due("no longer near", x.payer(1, 7), 4);
        C.due("of what is done", x, x.step(1, 0), -1, 9);
        C.due("ned to sea", x, x.step(0, 1), 4, 0);
        C.due("ned to sea", x, x.step(0, 1), 5, 0);
        C.due("the purse is not enough", x, x.step(0, 1), -1, 9);
        C.due("he stays near", x.near(0, 1), 5);
        C.due("his purse stays", x.payer(0, 1), 30);
        x.price(1, 2, 30);
        C.due("just enough", x, x.step(0, 1), 6, 0);
        C.due("then nothing", x.payer(0, 1), 0);
        for (int bad : new int[] {-1, 3, MIN, MAX}) {
            C.due("payer " + bad, x, x.step(bad, 0), -1, 2);
            C.due("deed " + bad, x, x.step(0, bad), -1, 2);
        }
    }

    private static void p20Shrink() {
        AlmostTax x = land();
        C.due("shrink", x, x.shrink(0, 0), 1, 0);
        C.due("shrink", x, x.shrink(0, 0), 0, 0);
        C.due("he is not near", x, x.shrink(0, 0), -1, 9);
        C.due("it is done", x, x.shrink(2, 0), -1, 9);
        C.due("it stays done", x.near(2, 0), 3);
        for (int bad : new int[] {-1, 3, MIN, MAX}) {
            C.due("payer " + bad, x, x.shrink(bad, 0), -1, 2);
            C.due("deed " + bad, x, x.shrink(0, bad), -1, 2);
        }
    }

    private static void p21Year() {
        AlmostTax x = land();
        C.due("year(1)", x, x.year(1), 24 + 35 + 2, 0);
        C.due("year(1)", x, x.year(1), 16 + 35 + 2, 0);
        C.due("ned owes", x.payer(0, 4), 8);
        C.due("year(1)", x, x.year(1), 5 + 10 + 1, 0);
        C.due("ned owes more", x.payer(0, 4), 8 + 19);
        C.due("oz owes", x.payer(1, 4), 25);
        C.due("pia owes", x.payer(2, 4), 1);
        C.due("what all owe", x.many(6), 53);
        for (int bad : new int[] {0, -1, 100, MIN, MAX}) {
            C.due("year " + bad, x, x.year(bad), -1, 5);
        }
        C.due("year 3", x.many(4), 3);
        x = Check.landOf("payer p house 0 purse 999 wage 50;");
        for (int i = 0; i < 101; i++) {
            C.due("99 years", x, x.year(99), 0, 0);
        }
        C.due("year 9,999", x.many(4), 9999);
        C.due("a purse is 9,999 at most", x.payer(0, 1), 9999);
        C.due("one more", x, x.year(1), -1, 7);
        C.due("wrong first", x, x.year(100), -1, 5);
        x = Check.landOf("deed d rate 10 hard 2 cost 0;payer p house 0 purse 999 wage 50;near p d 1;");
        for (int i = 0; i < 5; i++) {
            x.year(99);
        }
        C.due("he pays from a full purse", x.payer(0, 1), 9994);
        x = new AlmostTax();
        for (int i = 0; i < 100; i++) {
            x.year(99);
        }
        x.year(98);
        C.due("9,998", x.many(4), 9998);
        C.due("two", x, x.year(2), -1, 7);
        C.due("nothing changes", x.many(4), 9998);
        C.due("one", x, x.year(1), 0, 0);
    }

    private static void p22Price() {
        AlmostTax x = land();
        C.due("rate", x, x.price(1, 0, 60), true, 0);
        C.due("rate", x.deed(1, 0), 60);
        C.due("taxed by it", x.part(0, 1), 30);
        C.due("cost", x, x.price(1, 2, 99), true, 0);
        C.due("cost", x.deed(1, 2), 99);
        C.due("rate 0", x, x.price(1, 0, 0), true, 0);
        C.due("cost 0", x, x.price(1, 2, 0), true, 0);
        C.due("rate 61", x, x.price(1, 0, 61), false, 5);
        C.due("rate -1", x, x.price(1, 0, -1), false, 5);
        C.due("cost 100", x, x.price(1, 2, 100), false, 5);
        C.due("cost -1", x, x.price(1, 2, -1), false, 5);
        C.due("hard", x, x.price(1, 1, 5), false, 5);
        C.due("what 3", x, x.price(1, 3, 5), false, 5);
        C.due("what -1", x, x.price(1, -1, 5), false, 5);
        C.due("deed 3", x, x.price(3, 0, 61), false, 2);
        C.due("deed -1", x, x.price(-1, 9, 5), false, 2);
        C.due("hard stays", x.deed(1, 1), 6);
    }

    private static void p23Hire() {
        AlmostTax x = land();
        C.due("hire", x, x.hire(0, 50), true, 0);
        C.due("wage", x.payer(0, 2), 50);
        C.due("hire for 0", x, x.hire(0, 0), true, 0);
        C.due("wage", x.payer(0, 2), 0);
        C.due("51", x, x.hire(0, 51), false, 5);
        C.due("-1", x, x.hire(0, -1), false, 5);
        C.due("payer 3", x, x.hire(3, 51), false, 2);
        C.due("payer -1", x, x.hire(-1, 5), false, 2);
        C.due("wage stays", x.payer(0, 2), 0);
    }

    private static void p24Forgive() {
        AlmostTax x = land();
        C.due("nothing", x, x.forgive(0), -1, 8);
        x.year(2);
        C.due("forgive", x, x.forgive(0), 8, 0);
        C.due("let off", x.payer(0, 4), 0);
        C.due("what he paid stays", x.payer(0, 3), 40);
        C.due("nothing then", x, x.forgive(0), -1, 8);
        C.due("payer 3", x, x.forgive(3), -1, 2);
        C.due("payer -1", x, x.forgive(-1), -1, 2);
    }

    private static void p25Come() {
        AlmostTax x = land();
        C.due("come", x, x.come(99), 3, 0);
        int[] due = {99, 50, 10, 0, 0, 0, 0, 0};
        for (int what = 0; what < 8; what++) {
            C.due("who came " + what, x, x.payer(3, what), due[what], 0);
        }
        C.due("house 100", x, x.come(100), -1, 5);
        C.due("house -1", x, x.come(-1), -1, 5);
        C.due("come", x, x.come(0), 4, 0);
        C.due("come", x, x.come(0), 5, 0);
        C.due("a seventh", x, x.come(0), -1, 7);
        C.due("wrong first", x, x.come(100), -1, 5);
        C.due("six", x.many(1), 6);
        // a place that was another's ahead must be fresh
        x.step(5, 0);
        x.year(3);
        Check.land(x, "deed d rate 60 hard 9 cost 0;");
        for (int p = 0; p < 6; p++) {
            x.come(7);
            C.due("fresh near " + p, x.near(p, 0), 0);
            C.due("fresh paid " + p, x.payer(p, 3), 0);
            C.due("fresh owes " + p, x.payer(p, 4), 0);
            C.due("fresh purse " + p, x.payer(p, 1), 50);
        }
    }

    private static void p26Dream() {
        AlmostTax x = land();
        C.due("dream", x, x.dream(60, 9, 99), 3, 0);
        int[] due = {60, 9, 99, 53, 0, 0};
        for (int what = 0; what < 6; what++) {
            C.due("dreamt " + what, x, x.deed(3, what), due[what], 0);
        }
        C.due("dream", x, x.dream(0, 1, 0), 4, 0);
        int[][] bad = {{-1, 1, 0}, {61, 1, 0}, {0, 0, 0}, {0, 10, 0}, {0, 1, -1}, {0, 1, 100}};
        for (int[] b : bad) {
            C.due("dream of what can't be", x, x.dream(b[0], b[1], b[2]), -1, 5);
        }
        x.dream(0, 1, 0);
        C.due("the seventh", x, x.dream(0, 1, 0), 6, 0);
        C.due("an eighth", x, x.dream(0, 1, 0), -1, 7);
        C.due("wrong first", x, x.dream(0, 0, 0), -1, 5);
        x.step(0, 3);
        Check.land(x, "payer p house 0;");
        for (int d = 0; d < 7; d++) {
            x.dream(60, 9, 0);
            C.due("fresh " + d, x.near(0, d), 0);
        }
    }

    private static void p27Rule() {
        AlmostTax x = land();
        C.due("odds 16", x, x.rule(2, 16), true, 0);
        C.due("many(2)", x.many(2), 16);
        C.due("odds 0", x, x.rule(2, 0), true, 0);
        C.due("allowance 40", x, x.rule(3, 40), true, 0);
        C.due("many(3)", x.many(3), 40);
        C.due("tax is 0 at least", x.many(7), 0);
        C.due("odds 17", x, x.rule(2, 17), false, 5);
        C.due("odds -1", x, x.rule(2, -1), false, 5);
        C.due("allowance 41", x, x.rule(3, 41), false, 5);
        C.due("allowance -1", x, x.rule(3, -1), false, 5);
        for (int bad : new int[] {-1, 0, 1, 4, MIN, MAX}) {
            C.due("rule " + bad, x, x.rule(bad, 1), false, 5);
        }
    }

    private static void p28p29Plan() {
        AlmostTax x = land();
        C.due("plan(0, 1)", x, x.plan(0, 1), 24, 0);
        C.due("planSet(0, 1)", x, x.planSet(0, 1), 0, 0);
        C.due("plan(0, 2)", x, x.plan(0, 2), 44, 0);
        C.due("planSet(0, 2)", x, x.planSet(0, 2), 1, 0);
        C.due("plan(1, 20)", x, x.plan(1, 20), 28, 0);
        C.due("planSet(1, 20)", x, x.planSet(1, 20), 5, 0);
        C.due("the purse is not enough for more", x, x.plan(0, 20), 20 + 20 * 12, 0);
        for (int bad : new int[] {0, -1, 21, MIN, MAX}) {
            C.due("years " + bad, x, x.plan(0, bad), -1, 5);
            C.due("years " + bad, x, x.planSet(0, bad), -1, 5);
        }
        C.due("payer 3", x, x.plan(3, 0), -1, 2);
        C.due("payer 3", x, x.planSet(3, 0), -1, 2);
        C.due("payer -1", x, x.planSet(-1, 0), -1, 2);
        // two deeds, either of which is enough: the least number; both at no gain: the fewest
        x = Check.landOf("allow 10;deed a rate 20 hard 2 cost 10;deed b rate 20 hard 2 cost 10;payer p house 0;near p a 1;near p b 1;");
        C.due("as good as paying: do nothing", x, x.planSet(0, 1), 0, 0);
        C.due("either: the least", x, x.planSet(0, 2), 1, 0);
        C.due("plan", x, x.plan(0, 2), 10, 0);
        x.rule(3, 0);
        C.due("both", x, x.planSet(0, 2), 3, 0);
        x = Check.landOf("deed a rate 20 hard 2 cost 5;deed b rate 20 hard 2 cost 5;deed c rate 40 hard 2 cost 10;"
            + "payer p house 0 purse 10;near p a 1;near p b 1;near p c 1;");
        C.due("fewer deeds ahead of a less number", x, x.planSet(0, 20), 4, 0);
        x = Check.landOf("deed a rate 60 hard 2 cost 0;payer p house 0;done p a;");
        C.due("what is done is in no plan", x, x.planSet(0, 20), 0, 0);
    }

    private static void p30Lure() {
        AlmostTax x = land();
        // ring near by 2 of 3, cost 20: 2/3 of the rate must be above 20 (32: 21)
        C.due("lure", x, x.lure(0, 0, 1), 32, 0);
        C.due("the rate stays", x.deed(0, 0), 18);
        C.due("for more years", x, x.lure(0, 0, 20), 3, 0);
        C.due("the purse is not enough", x, x.lure(0, 1, 20), -1, 8);
        C.due("he is not near", x, x.lure(0, 2, 20), -1, 8);
        C.due("it is done", x, x.lure(2, 0, 1), -1, 9);
        C.due("years first", x, x.lure(2, 0, 0), -1, 5);
        C.due("years 21", x, x.lure(0, 0, 21), -1, 5);
        C.due("deed 3", x, x.lure(0, 3, 0), -1, 2);
        C.due("payer 3", x, x.lure(3, 0, 0), -1, 2);
        C.due("payer -1, deed -1", x, x.lure(-1, -1, 1), -1, 2);
        x = Check.landOf("deed a rate 0 hard 2 cost 1;payer p house 0;near p a 1;");
        C.due("at the highest years", x, x.lure(0, 0, 20), 2, 0);
        x.price(0, 2, 30);
        C.due("30 of 60 are not above 30", x, x.lure(0, 0, 1), -1, 8);
        x.price(0, 2, 29);
        C.due("30 of 60 are above 29", x, x.lure(0, 0, 1), 60, 0);
    }

    private static void p31OwesIn() {
        AlmostTax x = land();
        C.due("ned", x, x.owesIn(0), 2, 0);
        C.due("oz", x, x.owesIn(1), 3, 0);
        C.due("pia", x, x.owesIn(2), 3, 0);
        C.due("nothing goes by", x.many(4), 0);
        x.year(2);
        C.due("he does", x, x.owesIn(0), 0, 0);
        C.due("next year", x, x.owesIn(1), 1, 0);
        x.year(1);
        C.due("pia owes 1", x.payer(2, 4), 1);
        C.due("1 is owed, too", x, x.owesIn(2), 0, 0);
        C.due("payer 3", x, x.owesIn(3), -1, 2);
        C.due("payer -1", x, x.owesIn(-1), -1, 2);
        x = Check.landOf("deed d rate 2 hard 2 cost 0;payer p house 0 purse 98 wage 0;payer q house 0 purse 99 wage 0;"
            + "payer r house 0 purse 0 wage 1;near p d 1;near q d 1;near r d 1;");
        C.due("in 99 years", x, x.owesIn(0), 99, 0);
        C.due("in 100: in none", x, x.owesIn(1), -1, 8);
        C.due("in none", x, x.owesIn(2), -1, 8);
    }

    private static AlmostTax receipts(long... cells) {
        AlmostTax x = land();
        x.tray(0, 3, 60);
        for (int i = 0; i < cells.length; i++) {
            x.write(0, i, cells[i]);
        }
        return x;
    }

    private static void p32p33Fits() {
        AlmostTax x = receipts(3, 12, 4, 32, 7, 44);
        C.due("none told: all", x, x.fits(0, 0), 8, 0);
        C.due("one told", x, x.fits(0, 1), 2, 0);
        C.due("two told", x, x.fits(0, 2), 1, 0);
        C.due("three told", x, x.fits(0, 3), 1, 0);
        C.due("the first", x, x.fitsAt(0, 1, 0), 1, 0);
        C.due("the second", x, x.fitsAt(0, 1, 1), 5, 0);
        for (int bad : new int[] {-1, 2, MIN, MAX}) {
            C.due("no such " + bad, x, x.fitsAt(0, 1, bad), -1, 8);
        }
        C.due("the last of all", x, x.fitsAt(0, 0, 7), 7, 0);
        C.due("20 told (the rest: nothing of nothing)", x, x.fits(0, 20), 1, 0);
        C.due("21", x, x.fits(0, 21), -1, 5);
        C.due("-1", x, x.fits(0, -1), -1, 5);
        C.due("MIN", x, x.fits(0, MIN), -1, 5);
        C.due("too few numbers", x, x.fits(0, 31), -1, 4);
        C.due("MAX", x, x.fits(0, MAX), -1, 4);
        C.due("MAX", x, x.fitsAt(0, MAX, 0), -1, 4);
        C.due("1 << 30", x, x.fits(0, 1 << 30), -1, 4);
        x.tray(1, 0, 3);
        C.due("an odd tray", x, x.fits(1, 1), 8, 0);
        C.due("too few", x, x.fits(1, 2), -1, 4);
        C.due("missing", x, x.fits(2, -1), -1, 3);
        C.due("no tray", x, x.fits(4, -1), -1, 1);
        C.due("no tray", x, x.fitsAt(-1, -1, 0), -1, 1);
        C.due("missing", x, x.fitsAt(2, 0, 0), -1, 3);
        long[][] bad = {{8, 0}, {-1, 0}, {1, -1}, {1, 1000}, {1L << 40, 0}, {1, 1L << 40}, {(1L << 32) + 1, 12}};
        for (long[] b : bad) {
            AlmostTax y = receipts(3, 12, b[0], b[1]);
            C.due("a two behind does not count", y, y.fits(0, 1), 2, 0);
            C.due("a number that can't be", y, y.fits(0, 2), -1, 5);
            C.due("a number that can't be", y, y.fitsAt(0, 2, 0), -1, 5);
            C.due("a number that can't be", y, y.sure(0, 2), -1, 5);
            C.due("a number that can't be", y, y.ask(0, 2), -1, 5);
        }
        x = receipts(7, 999);
        C.due("999 can be", x, x.fits(0, 1), 0, 0);
        C.due("none", x, x.fitsAt(0, 1, 0), -1, 8);
    }

    private static void p34Sure() {
        AlmostTax x = receipts(3, 12, 4, 0);
        C.due("sure", x, x.sure(0, 1), 1, 0);
        C.due("sure of nothing", x, x.sure(0, 0), 0, 0);
        C.due("sure of one set", x, x.sure(0, 2), 1, 0);
        x = receipts(7, 1);
        C.due("none fit", x, x.sure(0, 1), -1, 8);
        C.due("too few", x, x.sure(0, 31), -1, 4);
        C.due("21", x, x.sure(0, 21), -1, 5);
        C.due("missing", x, x.sure(1, 0), -1, 3);
        C.due("no tray", x, x.sure(9, 0), -1, 1);
    }

    private static void p35Ask() {
        AlmostTax x = receipts(3, 12, 7, 12);
        C.due("ask", x, x.ask(0, 0), 7, 0);
        C.due("ask for what parts them", x, x.ask(0, 1), 4, 0);
        C.due("one fits", x, x.ask(0, 2), -1, 8);
        C.due("too few", x, x.ask(0, 31), -1, 4);
        C.due("21", x, x.ask(0, 21), -1, 5);
        C.due("missing", x, x.ask(1, 0), -1, 3);
        C.due("no tray", x, x.ask(-1, 0), -1, 1);
        x = Check.landOf("deed a rate 0 hard 3 cost 0;deed b rate 5 hard 1 cost 0;");
        x.tray(0, 0, 0);
        C.due("nothing parts them: the least", x, x.ask(0, 0), 0, 0);
        x = Check.landOf("deed a rate 20 hard 2 cost 0;deed b rate 20 hard 2 cost 0;");
        x.tray(0, 0, 0);
        C.due("as good: the least", x, x.ask(0, 0), 1, 0);
    }

    private static void p36p37RoundsCrew() {
        AlmostTax x = Check.landOf("deed d rate 60 hard 2 cost 0;payer a house 90;payer b house 10;payer c house 40;"
            + "payer e house 50;payer f house 0;payer g house 10;near a d 1;near b d 1;near c d 1;near e d 1;near g d 1;");
        int[] due = {0, 80, 40, 10, 0, 0, 0};
        for (int k = 1; k <= 6; k++) {
            C.due("rounds " + k, x, x.rounds(k), due[k], 0);
        }
        for (int bad : new int[] {0, 7, -1, MIN, MAX}) {
            C.due("rounds " + bad, x, x.rounds(bad), -1, 5);
        }
        C.due("crew 0", x, x.crew(0), 4, 0);
        C.due("crew 9", x, x.crew(9), 4, 0);
        C.due("crew 10", x, x.crew(10), 3, 0);
        C.due("crew 39", x, x.crew(39), 3, 0);
        C.due("crew 40", x, x.crew(40), 2, 0);
        C.due("crew 79", x, x.crew(79), 2, 0);
        C.due("crew 80", x, x.crew(80), 1, 0);
        C.due("crew 99", x, x.crew(99), 1, 0);
        for (int bad : new int[] {100, -1, MIN, MAX}) {
            C.due("crew " + bad, x, x.crew(bad), -1, 5);
        }
        x.rule(3, 30);
        C.due("nobody is taxed", x, x.rounds(1), 0, 0);
        C.due("nobody is taxed", x, x.crew(0), 0, 0);
        x = Check.landOf("deed d rate 60 hard 2 cost 0;payer a house 0;payer b house 99;near a d 1;near b d 1;");
        C.due("the whole road", x, x.rounds(1), 99, 0);
    }

    private static void p38Split() {
        AlmostTax x = land();
        C.dueFraction("split(0, 0)", x, x.split(0, 0), 2, 3);
        C.dueFraction("split(0, 1)", x, x.split(0, 1), 3, 4);
        C.dueFraction("split(2, 2)", x, x.split(2, 2), 0, 1);
        C.due("it is done by him", x, x.split(2, 0), false, 9);
        x.dream(5, 1, 0);
        C.due("nobody is near", x, x.split(0, 3), false, 8);
        x.step(0, 3);
        C.due("done by him ahead of nobody near", x, x.split(0, 3), false, 9);
        C.due("payer 3", x, x.split(3, 0), false, 2);
        C.due("deed -1", x, x.split(0, -1), false, 2);
    }

    private static void p39p40Help() {
        AlmostTax x = land();
        C.due("help", x, x.help(), 3, 0);
        C.due("ned: sea would leave pia without", x, x.helped(0), 0, 0);
        C.due("oz", x, x.helped(1), 2, 0);
        C.due("pia", x, x.helped(2), 1, 0);
        C.due("payer 3", x, x.helped(3), -1, 2);
        C.due("payer -1", x, x.helped(-1), -1, 2);
        x.come(0);
        C.due("who is content is told none", x, x.helped(3), -1, 8);
        x = Check.landOf("deed a rate 1 hard 2 cost 0;deed b rate 1 hard 2 cost 0;payer p house 0;payer q house 0;payer r house 0;"
            + "near p a 1;near q a 1;near r a 1;near r b 1;");
        C.due("as many as can be", x, x.help(), 2, 0);
        C.due("none comes behind all", x, x.helped(0), 0, 0);
        C.due("the second is left", x, x.helped(1), -1, 8);
        C.due("the third has the other", x, x.helped(2), 1, 0);
        x.step(2, 1);
        C.due("done by the third", x, x.help(), 1, 0);
        C.due("the third is left", x, x.helped(2), -1, 8);
    }

    private static void p41Game() {
        AlmostTax x = land();
        C.due("no turns", x, x.game(0, 1, 0), 35 - 24, 0);
        C.due("one: ned does ring", x, x.game(0, 1, 1), 35 - 12, 0);
        C.due("two: oz does book", x, x.game(0, 1, 2), 3 - 12, 0);
        C.due("three: ned can do no more", x, x.game(0, 1, 3), 3 - 12, 0);
        C.due("the other way", x, x.game(1, 0, 1), 24 - 3, 0);
        C.due("below 0 is no NONE", x, x.game(0, 2, 0), 2 - 24, 0);
        C.due("all stays", x.many(7), 61);
        C.due("purses stay", x.many(9), 85);
        C.due("one and himself", x, x.game(0, 0, 1), -1, 5);
        for (int bad : new int[] {-1, 5, MIN, MAX}) {
            C.due("turns " + bad, x, x.game(0, 1, bad), -1, 5);
        }
        C.due("payer 3", x, x.game(3, 3, 9), -1, 2);
        C.due("payer -1", x, x.game(0, -1, 1), -1, 2);
        x = Check.landOf("deed a rate 50 hard 3 cost 0;deed b rate 10 hard 2 cost 0;payer p house 0;payer q house 0;near p a 1;near p b 1;");
        C.due("with one step of his own: b", x, x.game(0, 1, 2), 0 - 16, 0);
        C.due("with two of his own: a twice", x, x.game(0, 1, 3), 0 - 5, 0);
    }

    private static void p42MoveOf() {
        AlmostTax x = land();
        C.due("move", x, x.moveOf(0, 1, 1), 0, 0);
        C.due("move of oz", x, x.moveOf(1, 0, 1), 2, 0);
        C.due("none is as good as nothing", x, x.moveOf(2, 0, 1), -1, 8);
        C.due("no turns", x, x.moveOf(0, 1, 0), -1, 5);
        C.due("5 turns", x, x.moveOf(0, 1, 5), -1, 5);
        C.due("one and himself", x, x.moveOf(1, 1, 1), -1, 5);
        C.due("payer 3", x, x.moveOf(0, 3, 0), -1, 2);
        C.due("payer -1", x, x.moveOf(-1, 0, 1), -1, 2);
        x = Check.landOf("deed a rate 50 hard 3 cost 0;deed b rate 10 hard 2 cost 0;payer p house 0;payer q house 0;near p a 1;near p b 1;");
        C.due("one of his own: b", x, x.moveOf(0, 1, 2), 1, 0);
        C.due("two of his own: a", x, x.moveOf(0, 1, 3), 0, 0);
        x = Check.landOf("allow 40;deed a rate 10 hard 3 cost 0;payer p house 0;payer q house 0;");
        C.due("a step as good as nothing comes first", x, x.moveOf(0, 1, 1), 0, 0);
    }

    private static void p43Luck() {
        AlmostTax x = land();
        C.dueFraction("none or more", x, x.luck(0, 0), 1, 1);
        C.dueFraction("one of two by 4 of 16", x, x.luck(0, 1), 7, 16);
        C.dueFraction("both", x, x.luck(0, 2), 1, 16);
        C.dueFraction("three", x, x.luck(0, 3), 0, 1);
        C.dueFraction("seven", x, x.luck(0, 7), 0, 1);
        C.due("k 8", x, x.luck(0, 8), false, 5);
        C.due("k -1", x, x.luck(0, -1), false, 5);
        C.due("payer 3", x, x.luck(3, 8), false, 2);
        x.rule(2, 0);
        C.dueFraction("odds 0", x, x.luck(0, 1), 0, 1);
        C.dueFraction("odds 0, none or more", x, x.luck(0, 0), 1, 1);
        x.rule(2, 16);
        C.dueFraction("odds 16", x, x.luck(0, 2), 1, 1);
        StringBuilder b = new StringBuilder("odds 5;payer p house 0 purse 0;");
        for (char c = 'a'; c < 'h'; c++) {
            b.append("deed ").append(c).append(" rate 0 hard 2 cost 99;near p ").append(c).append(" 1;");
        }
        x = Check.landOf(b.toString());
        C.dueFraction("all seven (whatever they cost)", x, x.luck(0, 7), 78125, 1L << 28);
    }

    private static void p44Bears() {
        AlmostTax x = land();
        C.dueFraction("bears(0)", x, x.bears(0), 24, 61);
        C.dueFraction("bears(2)", x, x.bears(2), 2, 61);
        x.come(0);
        C.dueFraction("bears nothing", x, x.bears(3), 0, 1);
        C.due("payer 4", x, x.bears(4), false, 2);
        x.rule(3, 40);
        C.due("nobody is taxed", x, x.bears(0), false, 8);
    }

    private static void p45p46Live() {
        AlmostTax x = land();
        C.due("no decades", x, x.live(0), -1, 8);
        C.due("the seed first", x, x.live(10000), -1, 5);
        C.due("the seed first", x, x.live(-1), -1, 5);
        C.due("not lived yet", x, x.lived(0), -1, 8);
        C.due("what first", x, x.lived(5), -1, 5);
        Check.decades(x, "step ned ring;step ned ring;shrink ned ring;shrink oz sea;step ned book;shrink ned book;year 2;"
            + "rate sea 30;rate sea 31;when owes ned;stop;end;when done ned ring;any;end;");
        // ned has 10 behind ring, is taxed 12, gets 5: he pays 12, then 8, and owes 4
        C.due("live", x, x.live(9999), 11, 0);
        int[] due = {4, 2, 1, 12 + 8 + 70 + 4, 0};
        for (int what = 0; what < 5; what++) {
            C.due("lived " + what, x, x.lived(what), due[what], 0);
        }
        C.due("the year", x.many(4), 2);
        C.due("all is as it is then", x.deed(1, 0), 31);
        C.due("ring is done", x.payer(0, 6) & 1, 1);
        C.due("no live", x, x.live(-1), -1, 5);
        C.due("leaves it", x, x.lived(1), 2, 0);
        Check.decades(x, "year 1;");
        C.due("decades leave it", x, x.lived(1), 2, 0);
        int ahead = x.many(5);
        x.live(0);
        C.due("of this life alone", x, x.lived(1), 1, 0);
        C.due("of this life alone", x, x.lived(3), x.many(5) - ahead, 0);
        for (int bad : new int[] {-1, 5, MIN, MAX}) {
            C.due("lived " + bad, x, x.lived(bad), -1, 5);
        }
        lifeOf("when near pia ring=3;year 1;end;", 2, "near is hard if done");
        lifeOf("when near ned ring<3;year 1;end;", 2, "near below");
        lifeOf("when near ned ring>1;year 1;end;", 2, "near above");
        lifeOf("when near ned ring>2;year 1;end;", 1, "near not above");
        lifeOf("when purse ned=30;year 1;end;", 2, "purse");
        lifeOf("when purse ned<30;year 1;end;", 1, "purse not below");
        lifeOf("when owes ned;year 1;end;", 1, "owes nothing");
        lifeOf("year 2;when owes ned;any;end;", 3, "owes");
        lifeOf("year 3;when owes pia;any;end;", 3, "owes 1");
        lifeOf("when done pia ring;any;end;", 2, "done");
        lifeOf("when done ned ring;any;end;", 1, "not done");
        lifeOf("loop 3;any;any;end;any;", 8, "a loop counts once");
        lifeOf("loop 3;loop 2;any;end;end;", 1 + 3 + 6, "a loop in a loop counts each time");
        lifeOf("any;stop;any;", 2, "stop is a step");
        lifeOf("loop 99;stop;end;any;", 2, "stop in a loop");
    }

    private static void lifeOf(String text, int steps, String why) {
        AlmostTax x = land();
        Check.decades(x, text);
        C.due(why + ": " + text, x, x.live(3), steps, 0);
        C.due("nothing left: " + text, x.lived(4), 0);
    }

    private static void p45Draws() {
        AlmostTax x = Check.landOf("deed a rate 1 hard 9 cost 0;deed b rate 1 hard 9 cost 0;deed c rate 1 hard 9 cost 0;"
            + "payer p house 0;payer q house 0;");
        Check.decades(x, "any;");
        int s1 = 10909;
        int s2 = (int) ((long) s1 * 2971 + 10909 & 65535);
        int s3 = (int) ((long) s2 * 2971 + 10909 & 65535);
        int p = s1 / 8 % 2;
        int d = s2 / 8 % 3;
        x.rule(2, s3 / 8 % 16 + 1);
        x.live(0);
        C.due("who steps to what", x.near(p, d), 1);
        C.due("done", x.lived(0), 0);
        x.rule(2, s3 / 8 % 16);
        x.live(0);
        C.due("not below: he shrinks", x.near(p, d), 0);
        C.due("done", x.lived(0), 0);
        x.live(0);
        C.due("he is not near: missed", x.lived(0), 1);
        x.dream(1, 9, 0);
        x.rule(2, 16);
        x.live(0);
        C.due("by how many there are then", x.near(p, s2 / 8 % 4), 1);
        AlmostTax y = new AlmostTax();
        Check.decades(y, "any;any;");
        C.due("any without payers", y, y.live(7), 2, 0);
        C.due("is missed", y.lived(0), 2);
    }

    private static void p45Limits() {
        AlmostTax x = new AlmostTax();
        Check.decades(x, "loop 99;loop 99;year 20;end;end;");
        // an outer loop, then 99 years and a loop again and again
        C.due("300 steps", x, x.live(0), 300, 0);
        C.due("more was left", x.lived(4), 1);
        C.due("years", x.lived(1), 20 * 296);
        C.due("300 steps", x, x.live(0), 300, 0);
        C.due("to 9,999 by twenties", x.many(4), 9980);
        C.due("missed as a whole", x.lived(0), 296 - (9980 - 5920) / 20);
        AlmostTax y = new AlmostTax();
        Check.decades(y, "loop 99;year 1;end;loop 99;year 1;end;loop 99;year 1;end;");
        C.due("99 and 99 and 99 and 3", y, y.live(0), 300, 0);
        C.due("none was left", y.lived(4), 0);
        Check.decades(y, "loop 99;year 1;end;loop 99;year 1;end;loop 99;year 1;end;stop;");
        C.due("a stop was left", y, y.live(0), 300, 0);
        C.due("a stop was left", y.lived(4), 1);
        Check.decades(y, "loop 99;loop 99;loop 99;end;end;end;");
        C.due("loops with nothing in them", y, y.live(0), 300, 0);
        C.due("more was left", y.lived(4), 1);
        Check.decades(y, "loop 99;end;");
        C.due("one with nothing in it", y, y.live(0), 1, 0);
        C.due("none was left", y.lived(4), 0);
    }

    private static void p47Mean() {
        AlmostTax x = land();
        C.due("no decades", x, x.mean(0, 1), false, 8);
        C.due("the numbers first", x, x.mean(0, 0), false, 5);
        Check.decades(x, "any;any;any;year 3;any;year 2;");
        x.year(1);
        long all = 0;
        for (int seed = 100; seed < 120; seed++) {
            x.mark();
            x.live(seed);
            all += x.many(5);
            x.back();
        }
        x.mark();
        x.live(5);
        int missed = x.lived(0);
        x.back();
        C.due("mean", x, x.mean(100, 20), true, 0);
        C.due("of what all have paid, ahead, too", x.top() * 20, all * x.bottom());
        C.due("all stays", x.many(4), 1);
        C.due("lived() stays", x.lived(0), missed);
        for (int bad : new int[] {0, -1, 21, MIN, MAX}) {
            C.due("many " + bad, x, x.mean(0, bad), false, 5);
        }
        for (int bad : new int[] {-1, 10000, MIN, MAX}) {
            C.due("seed " + bad, x, x.mean(bad, 1), false, 5);
        }
        C.due("the last is 9,999", x, x.mean(9980, 20), true, 0);
        C.due("the last is above", x, x.mean(9981, 20), false, 5);
        C.due("the last seed", x, x.mean(9999, 1), true, 0);
    }

    private static void p48p49Marks() {
        AlmostTax x = land();
        C.due("none", x, x.back(), -1, 8);
        C.due("mark", x, x.mark(), 1, 0);
        x.step(0, 0);
        Check.decades(x, "any;");
        x.tray(0, 0, 1);
        C.due("mark", x, x.mark(), 2, 0);
        x.year(5);
        x.price(0, 0, 1);
        x.rule(2, 1);
        x.come(3);
        Check.land(x, "payer a house 1;");
        C.due("mark", x, x.mark(), 3, 0);
        C.due("a fourth", x, x.mark(), -1, 7);
        C.due("back", x, x.back(), 2, 0);
        C.due("the land of one", x.many(1), 1);
        C.due("back", x, x.back(), 1, 0);
        C.due("three again", x.many(1), 3);
        C.due("year 0", x.many(4), 0);
        C.due("rate", x.deed(0, 0), 18);
        C.due("odds", x.many(2), 4);
        C.due("ring is done", x.payer(0, 6), 1);
        C.due("decades too", x, x.live(0), 1, 0);
        C.due("names too", x, Check.decades(x, "step ned sea;"), 1, 0);
        C.due("back", x, x.back(), 0, 0);
        C.due("ring is not done", x.payer(0, 6), 0);
        C.due("no decades", x, x.live(0), -1, 8);
        C.due("lived() is of the latest live()", x, x.lived(1), 0, 0);
        C.due("trays stay", x, x.read(0, 0), 0, 0);
        C.due("none", x, x.back(), -1, 8);
    }
}
