/** The edges of lives and MARKS (==== 4; promises 45 to 49): what is MISSED, how often, how many STEPS, draws, what is kept. */
public final class LifeEdges {
    private static final Check C = new Check();
    private static final int MIN = Integer.MIN_VALUE;
    private static final int MAX = Integer.MAX_VALUE;

    public static void main(String[] args) {
        seeds();
        whatIsLived();
        emptyDecades();
        stepsMissed();
        shrinksMissed();
        yearsMissed();
        ratesMissed();
        anyWithout();
        anyOfOne();
        anyMissed();
        draws();
        drawsGoOn();
        tests();
        loops();
        whens();
        stops();
        threeHundred();
        leftToBeDone();
        allIsAsItIsThen();
        meanEdges();
        meanLeavesAll();
        marksEdges();
        marksKeepAll();
        marksOfDecades();
        C.finish();
    }

    /** One DEED (RATE 20, HARD 3, COST 5), one PAYER (PURSE 9, WAGE 0), near by 1. */
    private static AlmostTax one() {
        return Check.landOf("deed d rate 20 hard 3 cost 5;payer p house 0 purse 9 wage 0;near p d 1;");
    }

    /** The DECADES are lived: STEPS done, MISSED, YEARS, DONE, PAID, left. */
    private static void due(String why, AlmostTax x, String text, int... facts) {
        C.due(why + ": " + text, Check.decades(x, text) >= 0, true);
        C.due(why + ", STEPS of " + text, x, x.live(0), facts[0], 0);
        String[] names = {"MISSED", "YEARS", "DONE", "PAID", "left"};
        for (int i = 1; i < facts.length; i++) {
            C.due(why + ", " + names[i - 1] + " of " + text, x, x.lived(i - 1), facts[i], 0);
        }
    }

    /** LIVED by a seed (0 to 9,999): 5; 8: no DECADES. */
    private static void seeds() {
        AlmostTax x = one();
        for (int bad : new int[] {-1, 10000, MIN, MAX}) {
            C.due("5 ahead of 8, seed " + bad, x, x.live(bad), -1, 5);
        }
        C.due("no DECADES", x, x.live(0), -1, 8);
        C.due("no DECADES", x, x.live(9999), -1, 8);
        Check.decades(x, "year 1;");
        for (int bad : new int[] {-1, 10000, MIN, MAX}) {
            C.due("seed " + bad, x, x.live(bad), -1, 5);
        }
        C.due("nothing was lived", x, x.many(4), 0, 0);
        C.due("nothing was lived", x, x.lived(0), -1, 8);
        C.due("seed 0", x, x.live(0), 1, 0);
        C.due("seed 9,999", x, x.live(9999), 1, 0);
        C.due("two YEARS", x, x.many(4), 2, 0);
    }

    /** lived(): of live() latest with STATUS 0 (5; 8: there was none). */
    private static void whatIsLived() {
        AlmostTax x = one();
        for (int bad : new int[] {-1, 5, MIN, MAX}) {
            C.due("5 ahead of 8, lived " + bad, x, x.lived(bad), -1, 5);
        }
        for (int what = 0; what < 5; what++) {
            C.due("there was none, lived " + what, x, x.lived(what), -1, 8);
        }
        due("a life", x, "year 2;step p d;step p d;step p d;", 4, 2, 2, 0, 9, 0);
        for (int bad : new int[] {-1, 5, MIN, MAX}) {
            C.due("lived " + bad, x, x.lived(bad), -1, 5);
        }
        x.live(10000);
        C.due("5 leaves it", x, x.lived(1), 2, 0);
        x.mean(0, 20);
        C.due("mean() leaves it", x, x.lived(1), 2, 0);
        x.year(9);
        C.due("year() leaves it", x, x.lived(1), 2, 0);
        Check.decades(x, "!");
        C.due("decades() with 10 leaves it", x, x.lived(1), 2, 0);
        x.land(0);
        C.due("land() leaves it", x, x.lived(1), 2, 0);
        x.live(0);
        C.due("8 leaves it", x, x.lived(1), 2, 0);
        due("the next is told anew", x, "year 1;", 1, 0, 1, 0, 0, 0);
    }

    private static void emptyDecades() {
        AlmostTax x = one();
        due("no STEPS", x, "", 0, 0, 0, 0, 0, 0);
        due("blanks", x, " \n", 0, 0, 0, 0, 0, 0);
        C.dueFraction("the mean of no STEPS", x, x.mean(0, 20), 0, 1);
    }

    // ---- what can't be is MISSED

    private static void stepsMissed() {
        AlmostTax x = one();
        due("a STEP, the last STEP, a STEP of what is DONE", x, "step p d;step p d;step p d;", 3, 1, 0, 1, 0, 0);
        C.due("the COST went once", x.payer(0, 1), 4);
        x = one();
        x.price(0, 2, 10);
        due("a STEP that the PURSE is not enough for", x, "step p d;step p d;", 2, 1, 0, 0, 0, 0);
        C.due("he is near by 2", x.near(0, 0), 2);
        C.due("the PURSE stays", x.payer(0, 1), 9);
        x.price(0, 2, 9);
        due("just enough", x, "step p d;", 1, 0, 0, 1, 0, 0);
        C.due("nothing is left", x.payer(0, 1), 0);
    }

    private static void shrinksMissed() {
        AlmostTax x = one();
        due("a SHRINK, one of what he is not near to", x, "shrink p d;shrink p d;", 2, 1, 0, 0, 0, 0);
        C.due("he is near by 0", x.near(0, 0), 0);
        due("a SHRINK of what is DONE", x, "step p d;step p d;step p d;shrink p d;", 4, 1, 0, 1, 0, 0);
        C.due("it stays DONE", x.near(0, 0), 3);
    }

    /** YEARS beyond 9,999 (as a whole). */
    private static void yearsMissed() {
        AlmostTax x = new AlmostTax();
        for (int i = 0; i < 100; i++) {
            x.year(99);
        }
        x.year(79);
        C.due("20 YEARS to 9,999", x.many(4), 9979);
        due("the last 20", x, "year 20;year 1;", 2, 1, 20, 0, 0, 0);
        C.due("9,999", x.many(4), 9999);
        AlmostTax y = new AlmostTax();
        for (int i = 0; i < 100; i++) {
            y.year(99);
        }
        y.year(80);
        due("20 of 19 are MISSED as a whole, 19 are not", y, "year 20;year 19;year 1;", 3, 2, 19, 0, 0, 0);
        C.due("9,999", y.many(4), 9999);
    }

    private static void ratesMissed() {
        AlmostTax x = one();
        due("a rate as it is", x, "rate d 20;rate d 21;rate d 21;rate d 20;", 4, 2, 0, 0, 0, 0);
        C.due("RATE 20", x.deed(0, 0), 20);
        due("0 and 60", x, "rate d 0;rate d 60;rate d 60;", 3, 1, 0, 0, 0, 0);
        C.due("RATE 60", x.deed(0, 0), 60);
        due("taxed by it from then on", x, "rate d 3;year 1;rate d 6;year 1;", 4, 0, 2, 0, 1 + 2, 0);
    }

    /** any without PAYERS or DEEDS (no draws). */
    private static void anyWithout() {
        AlmostTax x = new AlmostTax();
        due("without both", x, "any;any;any;", 3, 3, 0, 0, 0, 0);
        x.come(5);
        C.due("without DEEDS", x, x.live(0), 3, 0);
        C.due("MISSED", x.lived(0), 3);
        AlmostTax y = new AlmostTax();
        y.dream(9, 9, 9);
        for (int odds = 0; odds <= 16; odds += 16) {
            y.rule(2, odds);
            due("without PAYERS", y, "any;any;any;", 3, 3, 0, 0, 0, 0);
        }
        // where there were both ahead
        AlmostTax z = Check.landOf("deed d rate 1 hard 9 cost 0;payer p house 0;near p d 4;");
        for (int odds = 0; odds <= 16; odds += 16) {
            Check.land(z, "odds " + odds + ";payer p house 0;");
            due("without DEEDS that were", z, "any;any;any;", 3, 3, 0, 0, 0, 0);
            Check.land(z, "odds " + odds + ";deed d rate 1 hard 9 cost 0;");
            due("without PAYERS that were", z, "any;any;any;", 3, 3, 0, 0, 0, 0);
        }
        y.come(5);
        due("with one of each", y, "any;any;any;", 3, 0, 0, 0, 0, 0);
        C.due("near by 3", y.near(0, 0), 3);
    }

    /** A draw by 16 is below ODDS: never below 0, always below 16. */
    private static void anyOfOne() {
        AlmostTax x = Check.landOf("odds 0;deed d rate 1 hard 9 cost 0;payer p house 0;near p d 8;");
        Check.decades(x, "any;");
        x.mark();
        for (int seed = 0; seed < 100; seed++) {
            x.back();
            x.mark();
            x.live(seed);
            C.due("ODDS 0: he SHRINKS", x.near(0, 0), 7);
        }
        x.rule(2, 16);
        x.mark();
        for (int seed = 0; seed < 50; seed++) {
            x.back();
            x.mark();
            x.live(seed);
            C.due("ODDS 16: he makes a STEP", x.near(0, 0), 8);
        }
    }

    private static void anyMissed() {
        AlmostTax x = Check.landOf("odds 16;deed d rate 1 hard 2 cost 51;payer p house 0;");
        due("a STEP by any that the PURSE is not enough for", x, "any;any;any;", 3, 2, 0, 0, 0, 0);
        C.due("near by 1", x.near(0, 0), 1);
        x.price(0, 2, 50);
        due("DONE by any, then a STEP of what is DONE", x, "any;any;", 2, 1, 0, 1, 0, 0);
        x.rule(2, 0);
        due("a SHRINK by any of what is DONE", x, "any;", 1, 1, 0, 0, 0, 0);
        x = Check.landOf("odds 0;deed d rate 1 hard 2 cost 0;payer p house 0;near p d 1;");
        due("a SHRINK by any, one to which he is not near", x, "any;any;", 2, 1, 0, 0, 0, 0);
    }

    // ---- draws

    private static int next(int s) {
        return (int) ((s * 2971L + 10909L) % 65536L);
    }

    /** s becomes what is left of s times 2,971 and 10,909 by 65,536; the draw by n is the rest of s by 8, rounded down, by n. */
    private static void draws() {
        for (int payers = 1; payers <= 6; payers++) {
            for (int deeds = 1; deeds <= 7; deeds++) {
                int seed = payers * 1607 + deeds * 39;
                AlmostTax x = new AlmostTax();
                for (int p = 0; p < payers; p++) {
                    x.come(0);
                }
                for (int d = 0; d < deeds; d++) {
                    x.dream(1, 9, 0);
                }
                Check.decades(x, "any;");
                int s1 = next(seed);
                int s2 = next(s1);
                int s3 = next(s2);
                int bar = s3 / 8 % 16;
                x.rule(2, bar);
                C.due("a draw that is ODDS is not below them", x, x.live(seed), 1, 0);
                C.due("a SHRINK that is MISSED", x, x.lived(0), 1, 0);
                x.rule(2, bar + 1);
                x.live(seed);
                C.due("a STEP", x, x.lived(0), 0, 0);
                C.due("of that PAYER to that DEED, of " + payers + " and " + deeds, x.near(s1 / 8 % payers, s2 / 8 % deeds), 1);
                x.rule(2, bar);
                x.live(seed);
                C.due("SHRUNK from it", x.near(s1 / 8 % payers, s2 / 8 % deeds), 0);
            }
        }
        // of seed 9,999 and 2,971 and 10,909: 29,717,938, of which 30,290 are left by 65,536
        C.due("s of the last seed", next(9999), 9999 * 2971 + 10909 - 453 * 65536);
    }

    /** s goes on from any to any, all three draws first, whatever becomes of them; each life begins by its seed. */
    private static void drawsGoOn() {
        String land = "odds 9;deed a rate 1 hard 2 cost 60;deed b rate 1 hard 3 cost 0;payer p house 0;payer q house 0;payer r house 0;";
        for (int seed = 0; seed < 9999; seed += 1111) {
            AlmostTax x = Check.landOf(land);
            Check.decades(x, "any;year 1;any;loop 8;any;when owes p;any;end;end;");
            int[][] near = new int[3][2];
            int s = seed;
            int missed = 0;
            for (int i = 0; i < 10; i++) {
                s = next(s);
                int p = s / 8 % 3;
                s = next(s);
                int d = s / 8 % 2;
                s = next(s);
                int to = near[p][d] + (s / 8 % 16 < 9 ? 1 : -1);
                boolean done = near[p][d] == d + 2;
                // the first has a COST of 60: WAGES of a YEAR make it 60
                boolean can = !done && to >= 0 && (d == 1 || to < 2 || i > 0);
                missed += can ? 0 : 1;
                near[p][d] = can ? to : near[p][d];
                if (i == 0) {
                    C.due("nothing is DONE at first", to < 2, true);
                }
            }
            C.due("STEPS", x, x.live(seed), 1 + 1 + 1 + 1 + 8 * 2, 0);
            C.due("MISSED by seed " + seed, x, x.lived(0), missed, 0);
            for (int p = 0; p < 3; p++) {
                for (int d = 0; d < 2; d++) {
                    C.due("near(" + p + ", " + d + ") by seed " + seed, x, x.near(p, d), near[p][d], 0);
                }
            }
        }
    }

    // ---- TESTS, loops, whens, stops

    private static void dueTest(String test, boolean holds) {
        AlmostTax x = Check.landOf("deed d rate 20 hard 3 cost 5;deed e rate 20 hard 9 cost 5;payer p house 0 purse 9 wage 0;"
            + "payer q house 0 purse 0 wage 0;payer r house 0 purse 999 wage 50;near p d 1;done p e;near q d 1;");
        x.year(1);
        C.due(test + " is TEST", Check.decades(x, "when " + test + ";year 1;end;"), 2);
        C.due(test, x, x.live(0), holds ? 2 : 1, 0);
        C.due(test, x.many(4), holds ? 2 : 1);
    }

    private static void tests() {
        // p has 9 less 6, q OWES 6
        String[] near = {"near p d=1 T", "near p d=0 F", "near p d=2 F", "near p d<1 F", "near p d<2 T", "near p d>1 F", "near p d>0 T",
            "near p e=9 T", "near p e>8 T", "near p e<9 F", "near q e=0 T", "near q e<0 F", "near q e>0 F", "near p e>9 F"};
        String[] purse = {"purse p=3 T", "purse p=2 F", "purse p=4 F", "purse p<3 F", "purse p<4 T", "purse p>3 F", "purse p>2 T",
            "purse q=0 T", "purse q<0 F", "purse q<1 T", "purse q>0 F", "purse r=1049 T", "purse r<9999 T", "purse r>9999 F"};
        String[] rest = {"owes p F", "owes q T", "owes r F", "done p e T", "done p d F", "done q e F"};
        for (String[] all : new String[][] {near, purse, rest}) {
            for (String one : all) {
                dueTest(one.substring(0, one.length() - 2), one.endsWith("T"));
            }
        }
        AlmostTax x = one();
        due("each COMPARES by its own", x, "when near p d=1;when purse p>8;when near p d<2;year 1;end;end;end;", 4, 0, 1, 0, 6, 0);
        due("each COMPARES by its own", x, "when near p d<2;when purse p=3;when purse p>2;year 1;end;end;end;", 4, 0, 1, 0, 3, 0);
        x = Check.landOf("payer p house 0 purse 999 wage 50;");
        x.year(99);
        x.year(99);
        due("a full PURSE", x, "when purse p=9999;year 1;end;when purse p<9999;year 1;end;when purse p>9998;year 1;end;", 5, 0, 2, 0, 0, 0);
        x = Check.landOf("deed d rate 2 hard 2 cost 0;payer p house 0 purse 0 wage 0;near p d 1;");
        due("who OWES 1", x, "when owes p;stop;end;year 1;when owes p;stop;end;year 1;", 4, 0, 1, 0, 0, 0);
        x.forgive(0);
        due("who is let off", x, "when owes p;stop;end;", 1, 0, 0, 0, 0, 0);
    }

    /** loop n (1 to 99): as often; it counts as one each time it is come to from ahead. */
    private static void loops() {
        AlmostTax x = new AlmostTax();
        due("once", x, "loop 1;year 1;end;", 2, 0, 1, 0, 0, 0);
        due("twice", x, "loop 2;year 1;end;", 3, 0, 2, 0, 0, 0);
        due("99 times", x, "loop 99;year 1;end;", 100, 0, 99, 0, 0, 0);
        due("nothing, 99 times", x, "loop 99;end;year 1;", 2, 0, 1, 0, 0, 0);
        due("a loop in a loop", x, "loop 3;loop 4;year 1;end;end;", 1 + 3 + 12, 0, 12, 0, 0, 0);
        due("a loop in a loop, and behind it", x, "loop 3;year 1;loop 4;year 1;end;year 1;end;year 1;", 1 + 3 * 7 + 1, 0, 19, 0, 0, 0);
        due("three deep", x, "loop 2;loop 3;loop 4;year 1;end;end;end;", 1 + 2 + 6 + 24, 0, 24, 0, 0, 0);
        due("nothing within three", x, "loop 2;loop 3;loop 4;end;end;end;", 1 + 2 + 6, 0, 0, 0, 0, 0);
        due("a loop behind a loop", x, "loop 2;year 1;end;loop 3;year 2;end;", 2 + 2 + 3, 0, 8, 0, 0, 0);
        due("two loops in a loop", x, "loop 2;loop 2;year 1;end;loop 3;end;end;", 1 + 2 * 4, 0, 4, 0, 0, 0);
        C.due("lived again as ever", x, x.live(0), 9, 0);
    }

    private static void whens() {
        AlmostTax x = one();
        due("nothing within", x, "when near p d=1;end;when near p d=2;end;year 1;", 3, 0, 1, 0, 6, 0);
        due("what does not hold is left out, to its own end", x, "when near p d=2;year 1;when near p d=1;year 1;end;year 1;end;", 1, 0, 0, 0, 0, 0);
        due("within one that holds", x, "when near p d=1;when near p d=2;year 1;end;year 1;end;", 3, 0, 1, 0, 3, 0);
        due("each time a loop comes to it", x, "loop 3;when near p d=1;shrink p d;end;end;", 1 + 3 + 1, 0, 0, 0, 0, 0);
        due("what does not hold, ahead of a rest", x, "when near p d=1;year 20;end;step p d;stop;", 3, 0, 0, 0, 0, 0);
        due("what does not hold, ahead of ends", x, "loop 2;loop 2;when near p d=3;any;end;end;end;", 1 + 2 + 4, 0, 0, 0, 0, 0);
        due("a when that holds ends in a loop", x, "loop 2;when near p d=1;year 1;end;end;", 1 + 2 * 2, 0, 2, 0, 0, 0);
    }

    private static void stops() {
        AlmostTax x = new AlmostTax();
        due("stop alone", x, "stop;", 1, 0, 0, 0, 0, 0);
        due("stop ahead", x, "stop;year 1;", 1, 0, 0, 0, 0, 0);
        due("stop in a loop", x, "loop 9;year 1;stop;end;year 1;", 3, 0, 1, 0, 0, 0);
        due("stop within three", x, "loop 9;loop 9;loop 9;year 1;stop;end;end;end;", 5, 0, 1, 0, 0, 0);
    }

    // ---- at most 300 STEPS

    private static void threeHundred() {
        AlmostTax x = new AlmostTax();
        // 3 loops, 3 times 99: 300
        String just = "loop 99;year 1;end;loop 99;year 1;end;loop 99;year 1;end;";
        due("just 300", x, just, 300, 0, 297, 0, 0, 0);
        due("299", x, just.replaceFirst("99", "98"), 299, 0, 296, 0, 0, 0);
        due("one more", x, just + "year 1;", 300, 0, 297, 0, 0, 1);
        due("one more by a loop", x, "loop 99;any;end;loop 99;any;end;loop 99;any;end;loop 1;end;", 300, 297, 0, 0, 0, 1);
        due("a loop of 99 by 99", x, "loop 99;loop 99;year 1;end;end;", 300, 0, 1 + 297 - 2, 0, 0, 1);
        due("what is MISSED is of them, too", x, "loop 99;loop 99;any;end;end;", 300, 296, 0, 0, 0, 1);
        due("nothing within a loop of 99 by 99", x, "loop 99;loop 99;loop 99;end;end;end;", 300, 0, 0, 0, 0, 1);
        AlmostTax y = one();
        due("whens that do not hold are of them", y, "loop 99;loop 99;when owes p;end;end;end;", 300, 0, 0, 0, 0, 1);
        due("whens that hold are of them", y, "loop 99;loop 99;when near p d=1;end;end;end;", 300, 0, 0, 0, 0, 1);
        // 1 + 98 * 2, 1 + 99, 3
        due("ends are not", y, "loop 98;loop 2;end;when near p d=1;end;end;loop 99;year 1;end;" + "loop 9;end;".repeat(3), 300, 0, 99);
        C.due("nothing was left", y.lived(4), 0);
    }

    /** 1 if a STEP was left to be done, else 0. */
    private static void leftToBeDone() {
        AlmostTax x = one();
        String just = "loop 99;year 1;end;loop 99;year 1;end;loop 99;year 1;end;";
        String fewer = "loop 98;year 1;end;loop 99;year 1;end;loop 99;year 1;end;";
        String most = "loop 97;year 1;end;loop 99;year 1;end;loop 99;year 1;end;";
        due("a stop was left", x, just + "stop;", 300, 0, 297, 0, 9, 1);
        due("a when was left", x, just + "when owes p;end;", 300, 0, 297, 0, 0, 1);
        due("stop as the 300th", x, fewer + "stop;year 1;", 300, 0, 296, 0, 0, 0);
        due("a when that holds as the 300th", x, fewer + "when owes p;year 1;end;", 300, 0, 296, 0, 0, 1);
        due("a when that does not hold as the 300th", x, fewer + "when done p d;year 1;end;", 300, 0, 296, 0, 0, 0);
        due("a when that does not hold, and one STEP more", x, fewer + "when done p d;year 1;end;year 1;", 300, 0, 296, 0, 0, 1);
        due("a loop as the 300th", x, fewer + "loop 2;year 1;end;", 300, 0, 296, 0, 0, 1);
        due("a loop with nothing as the 300th", x, fewer + "loop 9;end;", 300, 0, 296, 0, 0, 0);
        due("the last of a loop as the 300th", x, most + "loop 1;year 1;end;", 300, 0, 296, 0, 0, 0);
        due("the last but one of a loop as the 300th", x, most + "loop 2;year 1;end;", 300, 0, 296, 0, 0, 1);
        due("the end of three loops behind the 300th", x, "loop 99;year 1;end;loop 99;year 1;end;loop 96;year 1;end;loop 1;loop 1;year 1;end;end;",
            300, 0, 295, 0, 0, 0);
        due("the end of the first of two turns behind the 300th", x,
            "loop 99;year 1;end;loop 99;year 1;end;loop 96;year 1;end;loop 2;loop 1;year 1;end;end;", 300, 0, 295, 0, 0, 1);
    }

    /** LIVED: all is as it is then. */
    private static void allIsAsItIsThen() {
        AlmostTax x = one();
        due("a life", x, "step p d;step p d;year 2;rate d 7;", 4, 0, 2, 1, 0, 0);
        C.due("DONE", x.payer(0, 6), 1);
        C.due("PURSE", x.payer(0, 1), 4);
        C.due("the YEAR", x.many(4), 2);
        C.due("RATE", x.deed(0, 0), 7);
        C.due("lived again, on top of it", x, x.live(0), 4, 0);
        C.due("the YEAR", x.many(4), 4);
        C.due("MISSED then", x.lived(0), 3);
        AlmostTax y = one();
        due("PAID and OWES", y, "year 2;", 1, 0, 2, 0, 9, 0);
        C.due("PAID", y.payer(0, 3), 9);
        C.due("OWES", y.payer(0, 4), 3);
        due("PAID in this life alone", y, "year 1;", 1, 0, 1, 0, 0, 0);
        C.due("OWES", y.payer(0, 4), 9);
    }

    // ---- promise 47

    /** By so many seeds (1 to 20) from one on; 5: the last above 9,999, too; 8. */
    private static void meanEdges() {
        AlmostTax x = one();
        int[][] bad = {{-1, 1}, {10000, 1}, {0, 0}, {0, -1}, {0, 21}, {9981, 20}, {9999, 2}, {MIN, 1}, {MAX, 1}, {0, MIN}, {0, MAX},
            {MAX, MAX}, {MIN, MIN}, {MAX, 20}, {9999, MAX}, {10000, 0}, {10000, -1}};
        for (int[] b : bad) {
            C.due("5 ahead of 8: mean(" + b[0] + ", " + b[1] + ")", x, x.mean(b[0], b[1]), false, 5);
        }
        C.due("no DECADES", x, x.mean(0, 1), false, 8);
        Check.decades(x, "year 1;");
        for (int[] b : bad) {
            C.due("mean(" + b[0] + ", " + b[1] + ")", x, x.mean(b[0], b[1]), false, 5);
        }
        C.due("the FRACTION stays", x.bottom(), 1);
        C.due("the FRACTION stays", x.top(), 0);
        C.dueFraction("seed 0", x, x.mean(0, 1), 6, 1);
        C.dueFraction("20 seeds", x, x.mean(0, 20), 6, 1);
        C.dueFraction("to seed 9,999", x, x.mean(9980, 20), 6, 1);
        C.dueFraction("seed 9,999", x, x.mean(9999, 1), 6, 1);
        x.year(1);
        C.dueFraction("PAID ahead, too", x, x.mean(0, 20), 9, 1);
        Check.decades(x, "");
        C.dueFraction("PAID ahead alone", x, x.mean(0, 20), 6, 1);
        // by each seed apart
        AlmostTax y = Check.landOf("odds 12;deed d rate 60 hard 3 cost 5;deed e rate 7 hard 9 cost 5;payer p house 0;payer q house 0 wage 50;");
        y.year(3);
        Check.decades(y, "any;any;year 1;any;any;year 2;any;any;any;year 3;");
        long all = 0;
        for (int seed = 3000; seed < 3020; seed++) {
            y.mark();
            y.live(seed);
            all += y.many(5);
            y.back();
        }
        C.due("not the same by all", all % 20 != 0, true);
        C.due("mean", y, y.mean(3000, 20), true, 0);
        C.due("the mean of 20", y.top() * 20, all * y.bottom());
        C.due("without a common divisor", java.math.BigInteger.valueOf(y.top()).gcd(java.math.BigInteger.valueOf(y.bottom())).intValue(), 1);
    }

    /** All stays as it is. */
    private static void meanLeavesAll() {
        AlmostTax x = one();
        Check.decades(x, "year 1;step p d;rate d 9;any;");
        x.mark();
        x.step(0, 0);
        x.mean(5, 20);
        C.due("NEAR", x.near(0, 0), 2);
        C.due("PURSE", x.payer(0, 1), 9);
        C.due("PAID", x.payer(0, 3), 0);
        C.due("OWES", x.payer(0, 4), 0);
        C.due("the YEAR", x.many(4), 0);
        C.due("RATE", x.deed(0, 0), 20);
        C.due("not lived", x, x.lived(0), -1, 8);
        C.due("MARKS", x, x.back(), 0, 0);
        C.due("NEAR", x.near(0, 0), 1);
        C.due("DECADES", x, x.live(0), 4, 0);
    }

    // ---- promises 48, 49: MARKS

    private static void marksEdges() {
        AlmostTax x = one();
        C.due("none", x, x.back(), -1, 8);
        for (int round = 0; round < 3; round++) {
            for (int i = 1; i <= 3; i++) {
                C.due("mark " + i, x, x.mark(), i, 0);
                x.year(1);
            }
            C.due("a fourth", x, x.mark(), -1, 7);
            C.due("a fifth", x, x.mark(), -1, 7);
            C.due("nothing changes", x.many(4), 3);
            for (int i = 2; i >= 0; i--) {
                C.due("back to the latest", x, x.back(), i, 0);
                C.due("the YEAR then", x.many(4), i);
            }
            C.due("none is left", x, x.back(), -1, 8);
            C.due("nothing changes", x.many(4), 0);
        }
        x.mark();
        x.year(1);
        x.back();
        x.year(5);
        C.due("a MARK that is gone", x, x.back(), -1, 8);
        C.due("the YEAR stays", x.many(4), 5);
        x.mark();
        C.due("back at once", x, x.back(), 0, 0);
        C.due("the YEAR stays", x.many(4), 5);
    }

    private static String told(AlmostTax x) {
        StringBuilder b = new StringBuilder();
        for (int what = 0; what < 10; what++) {
            b.append(x.many(what)).append(' ');
        }
        for (int d = 0; d < 7; d++) {
            for (int what = 0; what < 6; what++) {
                b.append(x.deed(d, what)).append(' ');
            }
        }
        for (int p = 0; p < 6; p++) {
            for (int what = 0; what < 8; what++) {
                b.append(x.payer(p, what)).append(' ');
            }
            for (int d = 0; d < 7; d++) {
                b.append(x.near(p, d)).append(' ');
            }
        }
        return b.toString();
    }

    /** The LAND with all that became of it. */
    private static void marksKeepAll() {
        AlmostTax x = Check.landOf("odds 3;allow 4;deed d rate 60 hard 2 cost 1;deed e rate 50 hard 9 cost 2;"
            + "payer p house 7 purse 9 wage 1;payer q house 8;near p d 1;near q e 5;done q d;");
        x.year(3);
        x.come(9);
        x.dream(8, 7, 6);
        x.step(2, 2);
        x.year(2);
        String kept = told(x);
        C.due("somebody OWES", x.many(6) > 0, true);
        x.mark();
        x.rule(2, 16);
        x.rule(3, 0);
        x.price(0, 0, 1);
        x.price(1, 2, 99);
        x.hire(0, 50);
        x.step(1, 1);
        x.shrink(0, 0);
        x.year(9);
        x.forgive(0);
        x.come(1);
        x.dream(1, 1, 1);
        C.due("all is another", told(x).equals(kept), false);
        x.back();
        C.due("all is taken back", told(x).equals(kept), true);
        x.mark();
        Check.land(x, "payer z house 1;deed y rate 1 hard 1 cost 1;");
        x.back();
        C.due("a LAND is taken back", told(x).equals(kept), true);
        C.due("NAMES, too", x, Check.decades(x, "step p d;step q e;"), 2, 0);
        C.dueFault("and none else", x, Check.decades(x, "step z y;"), 3, 5);
    }

    /** The DECADES are kept as they are; TRAYS, the tape, the FRACTION, fault(), lived() are no part of that. */
    private static void marksOfDecades() {
        AlmostTax x = one();
        x.mark();
        Check.decades(x, "year 1;");
        x.mark();
        Check.decades(x, "loop 2;when near p d=1;year 2;end;end;");
        x.mark();
        x.land(0);
        C.due("no DECADES", x, x.live(0), -1, 8);
        x.back();
        C.due("DECADES of the third", x, x.live(0), 5, 0);
        C.due("four YEARS", x.many(4), 4);
        x.tray(0, 0, 1);
        x.write(0, 0, 7);
        x.split(0, 0);
        Check.land(x, "!");
        Check.feed(x, "payer q house 1;");
        x.back();
        C.due("DECADES of the second", x, x.live(0), 1, 0);
        C.due("one YEAR", x.many(4), 1);
        C.due("a TRAY stays", x, x.read(0, 0), 7, 0);
        C.due("the FRACTION stays", x.top(), 1);
        C.due("fault() stays", x.fault(0), 1);
        x.back();
        C.due("no DECADES of the first", x, x.live(0), -1, 8);
        C.due("lived() stays", x, x.lived(1), 1, 0);
        C.due("the tape stays", x, x.land(20), 1, 0);
    }
}
