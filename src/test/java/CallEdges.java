/** The edges of the calls but for texts and lives (promises 1 to 8, 13 to 44): too small, too large, empty, full, just enough. */
public final class CallEdges {
    private static final Check C = new Check();
    private static final int MIN = Integer.MIN_VALUE;
    private static final int MAX = Integer.MAX_VALUE;

    /** Seven DEEDS of RATE 60, HARD 9, COST 99, six PAYERS in HOUSES 0, 19 .. 95, each near by eight to each. */
    private static final String FULL_LAND = fullLand();

    private static String fullLand() {
        StringBuilder b = new StringBuilder();
        for (int d = 0; d < 7; d++) {
            b.append("deed ").append((char) ('a' + d)).append(" rate 60hard 9cost 99;");
        }
        for (int p = 0; p < 6; p++) {
            b.append("payer ").append((char) ('u' + p)).append(" house ").append(19 * p).append(";");
        }
        for (int p = 0; p < 6; p++) {
            for (int d = 0; d < 7; d++) {
                b.append("near ").append((char) ('u' + p)).append(' ').append((char) ('a' + d)).append(" 8;");
            }
        }
        return b.toString();
    }

    public static void main(String[] args) {
        aNewObject();
        statusOfCallsWithout();
        trayLengths();
        whatIsWrittenIsCut();
        noneFromMinusOne();
        placesOfTrays();
        pourEdges();
        pourOrder();
        manyEdges();
        deedEdges();
        payerEdges();
        partAndTax();
        copyTaxEdges();
        stepEdges();
        shrinkEdges();
        yearEdges();
        yearOfAPurse();
        lastYear();
        priceHireRule();
        forgiveEdges();
        comeEdges();
        dreamEdges();
        planEdges();
        planOfSeveral();
        lureEdges();
        owesInEdges();
        fitsEdges();
        fitsOfAFullLand();
        sureAndAsk();
        roundsEdges();
        crewEdges();
        splitEdges();
        helpEdges();
        helpedEdges();
        gameEdges();
        moveEdges();
        luckEdges();
        bearsEdges();
        fractionEdges();
        aLandBehindAnother();
        C.finish();
    }

    private static AlmostTax full() {
        return Check.landOf(FULL_LAND);
    }

    // ---- promises 1 to 4

    private static void aNewObject() {
        AlmostTax x = new AlmostTax();
        C.due("STATUS 0", x.status(), 0);
        C.due("the FRACTION is 0", x.top(), 0);
        C.due("by 1", x.bottom(), 1);
        for (int t = 0; t < 4; t++) {
            C.due("a MISSING TRAY is read", x, x.read(t, 0), -1, 3);
            C.due("a MISSING TRAY is written", x, x.write(t, 0, 1), false, 3);
            C.due("a MISSING TRAY is poured", x, x.pour(t, 0, t, 0, 0), false, 3);
            C.due("a MISSING TRAY gets TAX", x, x.copyTax(t), -1, 3);
            C.due("a MISSING TRAY has no twos", x, x.fits(t, 0), -1, 3);
            C.due("a MISSING TRAY has no twos", x, x.fitsAt(t, 0, 0), -1, 3);
            C.due("a MISSING TRAY has no twos", x, x.sure(t, 0), -1, 3);
            C.due("a MISSING TRAY has no twos", x, x.ask(t, 0), -1, 3);
        }
        C.due("no DEEDS", x, x.deed(0, 0), -1, 2);
        C.due("nobody", x, x.payer(0, 0), -1, 2);
        C.due("ODDS 8", x, x.many(2), 8, 0);
        C.due("ALLOWANCE 0", x, x.many(3), 0, 0);
        C.due("YEAR 0", x, x.many(4), 0, 0);
        C.due("no DECADES to live", x, x.live(0), -1, 8);
        C.due("no DECADES of a mean", x, x.mean(0, 1), false, 8);
        C.due("not lived", x, x.lived(0), -1, 8);
        C.due("no MARKS", x, x.back(), -1, 8);
        C.due("an empty tape", x, x.land(1), -1, 5);
        C.due("no HELP", x, x.help(), 0, 0);
        C.due("no ROUNDS", x, x.rounds(6), 0, 0);
        C.due("no CREW", x, x.crew(0), 0, 0);
        C.due("a YEAR of nobody", x, x.year(99), 0, 0);
        AlmostTax y = new AlmostTax();
        C.due("what became of another object is its own", y, y.many(4), 0, 0);
    }

    /** status(), fault(), feed(), top(), bottom() have none. */
    private static void statusOfCallsWithout() {
        AlmostTax x = new AlmostTax();
        for (int i = 0; i < 45; i++) {
            x.feed(0, 0, 0, 0, 0);
        }
        C.due("crew(100)", x, x.crew(100), -1, 5);
        C.due("a feed that is refused", x.feed(0, 0, 0, 0, 0), -1);
        C.due("status() behind it", x.status(), 5);
        x.fault(7);
        C.due("status() behind fault()", x.status(), 5);
        x.top();
        C.due("status() behind top()", x.status(), 5);
        x.bottom();
        C.due("status() behind bottom()", x.status(), 5);
        C.due("status() behind status()", x.status(), 5);
        C.due("a call with STATUS 0 ends it", x, x.help(), 0, 0);
        C.due("back()", x, x.back(), -1, 8);
        C.due("a call with another STATUS ends it", x, x.near(0, 0), -1, 2);
    }

    // ---- promises 5 to 8: TRAYS

    private static void trayLengths() {
        for (int sort = 0; sort < 4; sort++) {
            AlmostTax x = new AlmostTax();
            C.due("a TRAY of none", x, x.tray(sort, sort, 0), true, 0);
            C.due("it has no place 0", x, x.read(sort, 0), -1, 4);
            C.due("a TRAY of one", x, x.tray(sort, sort, 1), true, 0);
            C.due("it has a place 0", x, x.read(sort, 0), 0, 0);
            C.due("it has no place 1", x, x.read(sort, 1), -1, 4);
            C.due("a TRAY of 60", x, x.tray(sort, sort, 60), true, 0);
            for (int i = 0; i < 60; i++) {
                C.due("all 0", x, x.read(sort, i), 0, 0);
                x.write(sort, i, i + 1);
            }
            C.due("it has no place 60", x, x.write(sort, 60, 1), false, 4);
            C.due("61: 5", x, x.tray(sort, sort, 61), false, 5);
            C.due("MAX: 5", x, x.tray(sort, sort, MAX), false, 5);
            C.due("-1: 6", x, x.tray(sort, sort, -1), false, 6);
            C.due("MIN: 6", x, x.tray(sort, sort, MIN), false, 6);
            C.due("no such TRAY ahead of 5", x, x.tray(4, sort, 61), false, 1);
            C.due("no such TRAY ahead of 6", x, x.tray(-1, sort, -1), false, 1);
            C.due("no such sort ahead of 5", x, x.tray(sort, 4, 61), false, 1);
            C.due("no such sort ahead of 6", x, x.tray(sort, -1, -1), false, 1);
            for (int i = 0; i < 60; i++) {
                C.due("the old row stays", x, x.read(sort, i), i + 1, 0);
            }
            C.due("a row anew", x, x.tray(sort, 3 - sort, 2), true, 0);
            C.due("all 0 again", x, x.read(sort, 0), 0, 0);
            C.due("and shorter", x, x.read(sort, 2), -1, 4);
            C.due("a row anew", x, x.tray(sort, sort, 60), true, 0);
            C.due("all 0 again, to the end", x, x.read(sort, 59), 0, 0);
        }
    }

    /** Rows of numbers of 8 bits (sort 0), 16 (1), 32 (2) or 64 (3), with sign; what is written is cut to these. */
    private static void whatIsWrittenIsCut() {
        long[][] pairs = {
            {0, 127, 127}, {0, 128, -128}, {0, -128, -128}, {0, -129, 127}, {0, 255, -1}, {0, 256, 0}, {0, -1, -1},
            {0, Long.MAX_VALUE, -1}, {0, Long.MIN_VALUE, 0},
            {1, 32767, 32767}, {1, 32768, -32768}, {1, -32768, -32768}, {1, -32769, 32767}, {1, 65535, -1}, {1, 65536, 0},
            {1, Long.MAX_VALUE, -1}, {1, Long.MIN_VALUE, 0},
            {2, MAX, MAX}, {2, MAX + 1L, MIN}, {2, MIN, MIN}, {2, MIN - 1L, MAX}, {2, (1L << 32) - 1, -1}, {2, 1L << 32, 0},
            {2, Long.MAX_VALUE, -1}, {2, Long.MIN_VALUE, 0},
            {3, Long.MAX_VALUE, Long.MAX_VALUE}, {3, Long.MIN_VALUE, Long.MIN_VALUE}, {3, 1L << 32, 1L << 32}, {3, -1, -1}};
        AlmostTax x = new AlmostTax();
        for (int t = 0; t < 4; t++) {
            x.tray(t, t, 1);
        }
        for (long[] p : pairs) {
            int sort = (int) p[0];
            C.due("write " + p[1], x, x.write(sort, 0, p[1]), true, 0);
            C.due("sort " + sort + " cuts " + p[1], x, x.read(sort, 0), p[2], 0);
        }
    }

    private static void noneFromMinusOne() {
        AlmostTax x = Check.landOf("deed d rate 2 hard 2 cost 0;payer p house 0;payer q house 0;near p d 1;");
        x.tray(0, 3, 1);
        x.write(0, 0, -1);
        C.due("-1 is read", x, x.read(0, 0), -1, 0);
        C.due("NONE is told", x, x.read(0, 1), -1, 4);
        C.due("a GAME of -1", x, x.game(0, 1, 0), -1, 0);
        C.due("no GAME", x, x.game(0, 0, 0), -1, 5);
    }

    private static void placesOfTrays() {
        AlmostTax x = new AlmostTax();
        x.tray(2, 0, 3);
        for (int bad : new int[] {-1, 3, 60, MIN, MAX}) {
            C.due("write to place " + bad, x, x.write(2, bad, 1), false, 4);
            C.due("read place " + bad, x, x.read(2, bad), -1, 4);
        }
        for (int bad : new int[] {-1, 4, MIN, MAX}) {
            C.due("write to TRAY " + bad, x, x.write(bad, 0, 1), false, 1);
            C.due("read TRAY " + bad, x, x.read(bad, 0), -1, 1);
            C.due("no such TRAY ahead of no such place", x, x.read(bad, -1), -1, 1);
        }
        C.due("MISSING ahead of no such place", x, x.read(1, -1), -1, 3);
        C.due("MISSING ahead of no such place", x, x.write(1, MAX, 0), false, 3);
        for (int i = 0; i < 3; i++) {
            C.due("nothing was written", x, x.read(2, i), 0, 0);
        }
    }

    private static String row(AlmostTax x, int tray, int many) {
        StringBuilder b = new StringBuilder();
        for (int i = 0; i < many; i++) {
            b.append(x.read(tray, i)).append(' ');
        }
        return b.toString().trim();
    }

    private static void dueRow(String why, AlmostTax x, int tray, String want) {
        String got = row(x, tray, want.split(" ").length);
        if (!got.equals(want)) {
            System.out.println(got + " instead of " + want);
        }
        C.due(why, got.equals(want), true);
    }

    private static AlmostTax fiveAndThree(int sort) {
        AlmostTax x = new AlmostTax();
        x.tray(0, sort, 5);
        x.tray(1, sort, 3);
        for (int i = 0; i < 5; i++) {
            x.write(0, i, -i - 1);
        }
        return x;
    }

    private static void pourEdges() {
        for (int sort = 0; sort < 4; sort++) {
            AlmostTax x = fiveAndThree(sort);
            C.due("all that there is room for", x, x.pour(0, 2, 1, 0, 3), true, 0);
            dueRow("poured", x, 1, "-3 -4 -5");
            dueRow("what was poured stays", x, 0, "-1 -2 -3 -4 -5");
        }
        AlmostTax x = fiveAndThree(1);
        C.due("one to the last place", x, x.pour(0, 4, 1, 2, 1), true, 0);
        dueRow("poured", x, 1, "0 0 -5");
        C.due("one more than there is", x, x.pour(0, 3, 1, 0, 3), false, 4);
        C.due("one more than there is room for", x, x.pour(0, 0, 1, 1, 3), false, 4);
        C.due("from the place behind the last", x, x.pour(0, 5, 1, 0, 1), false, 4);
        C.due("to the place behind the last", x, x.pour(0, 0, 1, 3, 1), false, 4);
        C.due("from place -1", x, x.pour(0, -1, 1, 0, 1), false, 4);
        C.due("to place -1", x, x.pour(0, 0, 1, -1, 1), false, 4);
        C.due("nothing from place -1", x, x.pour(0, -1, 1, 0, 0), false, 4);
        C.due("nothing to place -1", x, x.pour(0, 0, 1, -1, 0), false, 4);
        C.due("a sum that wraps around", x, x.pour(0, MAX, 1, 0, MAX), false, 4);
        C.due("a sum that wraps around", x, x.pour(0, 1, 1, 0, MAX), false, 4);
        C.due("a sum that wraps around", x, x.pour(0, 0, 1, MAX, 1), false, 4);
        C.due("MIN", x, x.pour(0, MIN, 1, MIN, 0), false, 4);
        dueRow("nothing was poured", x, 1, "0 0 -5");
        C.due("nothing", x, x.pour(0, 0, 1, 0, 0), true, 0);
        C.due("nothing, from its end to its end", x, x.pour(0, 5, 1, 3, 0), true, 0);
        dueRow("nothing was poured", x, 1, "0 0 -5");
        C.due("in the same, forwards over itself", x, x.pour(0, 0, 0, 1, 4), true, 0);
        dueRow("as they were", x, 0, "-1 -1 -2 -3 -4");
        x = fiveAndThree(1);
        C.due("in the same, backwards over itself", x, x.pour(0, 1, 0, 0, 4), true, 0);
        dueRow("as they were", x, 0, "-2 -3 -4 -5 -5");
        C.due("on itself", x, x.pour(0, 0, 0, 0, 5), true, 0);
        dueRow("as they were", x, 0, "-2 -3 -4 -5 -5");
        x.tray(2, 1, 0);
        C.due("nothing to a TRAY of none", x, x.pour(0, 0, 2, 0, 0), true, 0);
        C.due("one to a TRAY of none", x, x.pour(0, 0, 2, 0, 1), false, 4);
        C.due("one from a TRAY of none", x, x.pour(2, 0, 0, 0, 1), false, 4);
        x.tray(2, 1, 60);
        x.tray(3, 1, 60);
        x.write(2, 0, 7);
        x.write(2, 59, 8);
        C.due("60", x, x.pour(2, 0, 3, 0, 60), true, 0);
        C.due("the first of 60", x.read(3, 0), 7);
        C.due("the last of 60", x.read(3, 59), 8);
        C.due("61", x, x.pour(2, 0, 3, 0, 61), false, 4);
    }

    /** 1, 3 (either), 11, 6, 4, asked in this order. */
    private static void pourOrder() {
        AlmostTax x = fiveAndThree(1);
        x.tray(2, 2, 3);
        C.due("1 (the first) ahead of all", x, x.pour(4, -1, 3, -1, -1), false, 1);
        C.due("1 (the first) ahead of all", x, x.pour(-1, -1, 3, -1, -1), false, 1);
        C.due("1 (the second) ahead of all", x, x.pour(3, -1, 4, -1, -1), false, 1);
        C.due("1 (the second) ahead of all", x, x.pour(3, -1, MIN, -1, -1), false, 1);
        C.due("3 (the first) ahead of 6, 4", x, x.pour(3, -1, 0, -1, -1), false, 3);
        C.due("3 (the second) ahead of 6, 4", x, x.pour(2, -1, 3, -1, -1), false, 3);
        C.due("11 ahead of 6, 4", x, x.pour(0, -1, 2, -1, -1), false, 11);
        C.due("11 of nothing, too", x, x.pour(2, 0, 0, 0, 0), false, 11);
        C.due("6 ahead of 4", x, x.pour(0, -1, 1, -1, -1), false, 6);
        C.due("6, MIN", x, x.pour(0, 0, 1, 0, MIN), false, 6);
        C.due("6, in the same", x, x.pour(0, 0, 0, 0, -1), false, 6);
        C.due("4 (the first)", x, x.pour(0, 6, 1, 0, 0), false, 4);
        C.due("4 (the second)", x, x.pour(0, 0, 1, 4, 0), false, 4);
        dueRow("nothing was poured", x, 0, "-1 -2 -3 -4 -5");
        dueRow("nothing was poured", x, 1, "0 0 0");
        dueRow("nothing was poured", x, 2, "0 0 0");
    }

    // ---- promises 13 to 18: what is told of a LAND

    private static void manyEdges() {
        AlmostTax x = full();
        // FULL of each is 60 * 8 / 9 = 53, TAX of each 371
        int[] due = {7, 6, 8, 0, 0, 0, 0, 6 * 371, 0, 300};
        for (int what = 0; what < 10; what++) {
            C.due("of a full LAND, many " + what, x, x.many(what), due[what], 0);
        }
        x.year(1);
        int[] later = {7, 6, 8, 0, 1, 6 * 60, 6 * 311, 6 * 371, 0, 0};
        for (int what = 0; what < 10; what++) {
            C.due("a YEAR later, many " + what, x, x.many(what), later[what], 0);
        }
        for (int bad : new int[] {-1, 10, MIN, MAX}) {
            C.due("many(" + bad + ")", x, x.many(bad), -1, 5);
        }
        x = Check.landOf("payer a house 0;payer b house 0;payer c house 0;payer d house 0;payer e house 0;payer f house 0;");
        C.due("all are CONTENT where there is no DEED", x, x.many(8), 63, 0);
        x.dream(9, 2, 0);
        C.due("all are CONTENT who are near to nothing", x, x.many(8), 63, 0);
        x.step(0, 0);
        C.due("PAYER 0 is not", x, x.many(8), 62, 0);
        x.step(0, 0);
        C.due("PAYER 0 has DONE it", x, x.many(8), 63, 0);
        x.step(5, 0);
        C.due("PAYER 5 is not", x, x.many(8), 31, 0);
        x.price(0, 0, 0);
        C.due("near at RATE 0 is near", x, x.many(8), 31, 0);
    }

    private static void deedEdges() {
        AlmostTax x = full();
        int[] due = {60, 9, 99, 53, 0, 48};
        for (int d = 0; d < 7; d += 6) {
            for (int what = 0; what < 6; what++) {
                C.due("deed(" + d + ", " + what + ")", x, x.deed(d, what), due[what], 0);
            }
        }
        for (int bad : new int[] {-1, 7, MIN, MAX}) {
            C.due("no such DEED " + bad, x, x.deed(bad, 0), -1, 2);
            C.due("no such DEED ahead of 5", x, x.deed(bad, 6), -1, 2);
        }
        for (int bad : new int[] {-1, 6, MIN, MAX}) {
            C.due("deed(0, " + bad + ")", x, x.deed(0, bad), -1, 5);
        }
        x = Check.landOf("deed d rate 60 hard 1 cost 0;deed e rate 59 hard 2 cost 0;payer p house 0;payer q house 0;near q e 1;");
        C.due("FULL of HARD 1: no steps but one", x, x.deed(0, 3), 0, 0);
        C.due("FULL is rounded down", x, x.deed(1, 3), 29, 0);
        C.due("by nobody", x, x.deed(0, 4), 0, 0);
        x.step(0, 0);
        C.due("by PAYER 0", x, x.deed(0, 4), 1, 0);
        x.step(1, 0);
        C.due("by both", x, x.deed(0, 4), 3, 0);
        C.due("near together", x, x.deed(1, 5), 1, 0);
        x.step(1, 1);
        C.due("by whom it is DONE he is not counted", x, x.deed(1, 5), 0, 0);
        C.due("by PAYER 1 alone", x, x.deed(1, 4), 2, 0);
        x = Check.landOf("payer a house 0;payer b house 0;payer c house 0;payer d house 0;payer e house 0;payer f house 0;");
        x.dream(60, 1, 0);
        for (int p = 0; p < 6; p++) {
            x.step(p, 0);
        }
        C.due("by all six", x, x.deed(0, 4), 63, 0);
    }

    private static void payerEdges() {
        AlmostTax x = full();
        x.year(2);
        int[] due = {95, 0, 10, 70, 311 + 361, 371, 0, 127};
        for (int what = 0; what < 8; what++) {
            C.due("payer(5, " + what + ")", x, x.payer(5, what), due[what], 0);
        }
        for (int bad : new int[] {-1, 6, MIN, MAX}) {
            C.due("no such PAYER " + bad, x, x.payer(bad, 0), -1, 2);
            C.due("no such PAYER ahead of 5", x, x.payer(bad, 8), -1, 2);
        }
        for (int bad : new int[] {-1, 8, MIN, MAX}) {
            C.due("payer(0, " + bad + ")", x, x.payer(0, bad), -1, 5);
        }
        for (int d = 0; d < 7; d++) {
            x.price(d, 2, 0);
            C.due("he does it", x, x.step(0, d), 9, 0);
            C.due("DONE", x, x.payer(0, 6), (2 << d) - 1, 0);
            C.due("near and not DONE", x, x.payer(0, 7), 127 - ((2 << d) - 1), 0);
        }
        for (int bad : new int[] {-1, 6, MIN, MAX}) {
            C.due("near of PAYER " + bad, x, x.near(bad, 0), -1, 2);
            C.due("part of PAYER " + bad, x, x.part(bad, 0), -1, 2);
        }
        for (int bad : new int[] {-1, 7, MIN, MAX}) {
            C.due("near of DEED " + bad, x, x.near(0, bad), -1, 2);
            C.due("part of DEED " + bad, x, x.part(0, bad), -1, 2);
        }
        C.due("HARD if it is DONE by him", x, x.near(0, 6), 9, 0);
        C.due("8 if not", x, x.near(5, 6), 8, 0);
    }

    /** PART is rounded down, 0 of what is DONE; TAX is all PARTS less the ALLOWANCE, 0 at least. */
    private static void partAndTax() {
        for (int hard = 1; hard <= 9; hard++) {
            for (int rate = 0; rate <= 60; rate += 5) {
                AlmostTax x = Check.landOf("deed d rate " + rate + " hard " + hard + " cost 0;payer p house 0;");
                for (int near = 0; near < hard; near++) {
                    C.due("PART of RATE " + rate + ", HARD " + hard + ", NEAR " + near, x, x.part(0, 0), rate * near / hard, 0);
                    x.step(0, 0);
                }
                C.due("PART of what is DONE", x, x.part(0, 0), 0, 0);
                C.due("TAX of what is DONE", x, x.payer(0, 5), 0, 0);
            }
        }
        AlmostTax x = Check.landOf("deed d rate 3 hard 2 cost 0;deed e rate 3 hard 2 cost 0;payer p house 0;near p d 1;near p e 1;");
        C.due("each PART is rounded down, not all together", x, x.payer(0, 5), 2, 0);
        x.rule(3, 1);
        C.due("TAX one above the ALLOWANCE", x, x.payer(0, 5), 1, 0);
        C.due("the ALLOWANCE leaves PARTS", x, x.part(0, 0), 1, 0);
        x.rule(3, 2);
        C.due("TAX as much as the ALLOWANCE", x, x.payer(0, 5), 0, 0);
        x.rule(3, 3);
        C.due("TAX below the ALLOWANCE is 0", x, x.payer(0, 5), 0, 0);
        x.come(0);
        C.due("TAX of all is no less for that", x, x.many(7), 0, 0);
        x.rule(3, 0);
        C.due("TAX without an ALLOWANCE", x, x.many(7), 2, 0);
    }

    private static void copyTaxEdges() {
        AlmostTax x = full();
        x.tray(0, 1, 6);
        C.due("six to a TRAY of six", x, x.copyTax(0), 6, 0);
        dueRow("TAX", x, 0, "371 371 371 371 371 371");
        x.tray(1, 1, 5);
        C.due("six to a TRAY of five", x, x.copyTax(1), -1, 4);
        dueRow("nothing came", x, 1, "0 0 0 0 0");
        x.tray(1, 0, 7);
        x.write(1, 6, 9);
        C.due("six to a TRAY of seven, of 8 bits", x, x.copyTax(1), 6, 0);
        dueRow("cut", x, 1, "115 115 115 115 115 115 9");
        for (int bad : new int[] {-1, 4, MIN, MAX}) {
            C.due("TRAY " + bad, x, x.copyTax(bad), -1, 1);
        }
        C.due("MISSING", x, x.copyTax(3), -1, 3);
        AlmostTax y = new AlmostTax();
        y.tray(0, 0, 0);
        C.due("of nobody, to a TRAY of none", y, y.copyTax(0), 0, 0);
        y.come(5);
        C.due("of one, to a TRAY of none", y, y.copyTax(0), -1, 4);
    }

    // ---- promises 19 to 27: what is done

    private static void stepEdges() {
        AlmostTax x = Check.landOf("deed d rate 9 hard 1 cost 20;deed e rate 9 hard 9 cost 21;payer p house 0 purse 20;payer q house 0 purse 19;");
        C.due("HARD 1: the first is the last", x, x.step(0, 0), 1, 0);
        C.due("just enough in the PURSE", x, x.payer(0, 1), 0, 0);
        C.due("of what is DONE", x, x.step(0, 0), -1, 9);
        C.due("1 too little in the PURSE", x, x.step(1, 0), -1, 9);
        C.due("he is as near as he was", x, x.near(1, 0), 0, 0);
        C.due("he has as much as he had", x, x.payer(1, 1), 19, 0);
        for (int i = 1; i <= 8; i++) {
            C.due("no STEP but the last asks for the COST", x, x.step(0, 1), i, 0);
        }
        C.due("the last does", x, x.step(0, 1), -1, 9);
        C.due("he is near by 8", x, x.near(0, 1), 8, 0);
        x.hire(0, 50);
        x.price(1, 0, 0);
        x.year(1);
        C.due("with a fuller PURSE", x, x.step(0, 1), 9, 0);
        C.due("less the COST", x, x.payer(0, 1), 29, 0);
        C.due("PAID is TAX alone", x, x.payer(0, 3), 0, 0);
        x.price(0, 2, 0);
        C.due("at COST 0", x, x.step(1, 0), 1, 0);
        C.due("nothing goes", x, x.payer(1, 1) > 0, true, 0);
        for (int bad : new int[] {-1, 2, MIN, MAX}) {
            C.due("PAYER " + bad, x, x.step(bad, 1), -1, 2);
            C.due("DEED " + bad, x, x.step(1, bad), -1, 2);
        }
        x.price(0, 2, 99);
        C.due("what is DONE asks for no COST again", x, x.near(1, 0), 1, 0);
        C.due("2 ahead of 9", x, x.step(0, 2), -1, 2);
    }

    private static void shrinkEdges() {
        AlmostTax x = Check.landOf("deed d rate 9 hard 3 cost 5;payer p house 0 purse 9;near p d 2;");
        C.due("to 1", x, x.shrink(0, 0), 1, 0);
        C.due("to 0", x, x.shrink(0, 0), 0, 0);
        C.due("he is not near", x, x.shrink(0, 0), -1, 9);
        C.due("he is near by 0", x, x.near(0, 0), 0, 0);
        C.due("he is CONTENT", x, x.many(8), 1, 0);
        x.step(0, 0);
        x.step(0, 0);
        x.step(0, 0);
        C.due("it is DONE", x, x.shrink(0, 0), -1, 9);
        C.due("it stays DONE", x, x.near(0, 0), 3, 0);
        C.due("its COST is gone", x, x.payer(0, 1), 4, 0);
        for (int bad : new int[] {-1, 1, MIN, MAX}) {
            C.due("PAYER " + bad, x, x.shrink(bad, 0), -1, 2);
            C.due("DEED " + bad, x, x.shrink(0, bad), -1, 2);
        }
        x.dream(9, 1, 0);
        C.due("of HARD 1 one is never near", x, x.shrink(0, 1), -1, 9);
    }

    private static void yearEdges() {
        AlmostTax x = Check.landOf("deed d rate 20 hard 2 cost 0;payer p house 0 purse 0 wage 10;payer q house 0 purse 0 wage 9;"
            + "payer r house 0 purse 0 wage 11;payer s house 0 purse 0 wage 0;near p d 1;near q d 1;near r d 1;near s d 1;");
        for (int bad : new int[] {0, -1, 100, MIN, MAX}) {
            C.due("year(" + bad + ")", x, x.year(bad), -1, 5);
        }
        C.due("no YEAR went by", x, x.many(4), 0, 0);
        C.due("one YEAR", x, x.year(1), 10 + 9 + 10 + 0, 0);
        int[][] due = {{0, 10, 0}, {0, 9, 1}, {1, 10, 0}, {0, 0, 10}};
        for (int p = 0; p < 4; p++) {
            C.due("PURSE of " + p, x, x.payer(p, 1), due[p][0], 0);
            C.due("PAID by " + p, x, x.payer(p, 3), due[p][1], 0);
            C.due("OWES " + p, x, x.payer(p, 4), due[p][2], 0);
        }
        C.due("99 YEARS", x, x.year(99), 99 * 29, 0);
        int[][] later = {{0, 1000, 0}, {0, 900, 100}, {100, 1000, 0}, {0, 0, 1000}};
        for (int p = 0; p < 4; p++) {
            C.due("later, PURSE of " + p, x, x.payer(p, 1), later[p][0], 0);
            C.due("later, PAID by " + p, x, x.payer(p, 3), later[p][1], 0);
            C.due("later, OWES " + p, x, x.payer(p, 4), later[p][2], 0);
        }
        x.hire(3, 50);
        x.year(1);
        C.due("what one OWES is not paid from a PURSE", x, x.payer(3, 4), 1000, 0);
        C.due("which is fuller", x, x.payer(3, 1), 40, 0);
    }

    /** PURSE is 9,999 at most. */
    private static void yearOfAPurse() {
        AlmostTax x = Check.landOf("deed d rate 4 hard 2 cost 0;payer p house 0 purse 999 wage 50;payer q house 0 purse 999 wage 50;near q d 1;");
        x.year(99);
        x.year(80);
        C.due("9,949", x, x.payer(0, 1), 999 + 179 * 50, 0);
        x.year(1);
        C.due("just 9,999", x, x.payer(0, 1), 9999, 0);
        C.due("9,999 less what he PAYS each YEAR", x, x.payer(1, 1), 999 + 180 * 48, 0);
        x.year(1);
        C.due("9,999 at most", x, x.payer(0, 1), 9999, 0);
        x.year(99);
        C.due("he gets first, then PAYS", x, x.payer(1, 1), 9997, 0);
        C.due("he PAYS as ever", x, x.payer(1, 3), 280 * 2, 0);
        x.hire(0, 1);
        x.year(1);
        C.due("9,999 at most by a WAGE of 1", x, x.payer(0, 1), 9999, 0);
        x.hire(1, 0);
        x.year(1);
        C.due("without a WAGE it is less", x, x.payer(1, 1), 9995, 0);
        C.due("all PURSES together", x, x.many(9), 9999 + 9995, 0);
    }

    /** A YEAR goes by (to 9,999); 7: above 9,999. */
    private static void lastYear() {
        AlmostTax x = Check.landOf("deed d rate 20 hard 2 cost 0;payer p house 0 purse 0 wage 1;near p d 1;");
        for (int i = 0; i < 100; i++) {
            x.year(99);
        }
        C.due("99 YEARS to 9,999", x, x.many(4), 9900, 0);
        x.year(1);
        C.due("99 YEARS to 10,000", x, x.year(99), -1, 7);
        C.due("5 ahead of 7", x, x.year(100), -1, 5);
        C.due("none of them went by", x, x.many(4), 9901, 0);
        C.due("nothing was PAID", x, x.many(5), 9901, 0);
        C.due("nothing is owed more", x, x.many(6), 9 * 9901, 0);
        C.due("98 YEARS to 9,999", x, x.year(98), 98, 0);
        C.due("the YEAR 9,999", x, x.many(4), 9999, 0);
        C.due("one more", x, x.year(1), -1, 7);
        C.due("99 more", x, x.year(99), -1, 7);
        C.due("0 more: 5", x, x.year(0), -1, 5);
    }

    private static void priceHireRule() {
        AlmostTax x = full();
        for (int d = 0; d < 7; d += 6) {
            int[][] good = {{0, 0}, {0, 60}, {2, 0}, {2, 99}};
            for (int[] g : good) {
                C.due("price(" + d + ", " + g[0] + ", " + g[1] + ")", x, x.price(d, g[0], g[1]), true, 0);
                C.due("from now on", x, x.deed(d, g[0]), g[1], 0);
            }
            int[][] bad = {{0, -1}, {0, 61}, {2, -1}, {2, 100}, {1, 5}, {3, 5}, {-1, 5}, {0, MIN}, {2, MAX}, {MIN, 0}, {MAX, 0}};
            for (int[] b : bad) {
                C.due("price(" + d + ", " + b[0] + ", " + b[1] + ")", x, x.price(d, b[0], b[1]), false, 5);
            }
            C.due("RATE stays", x, x.deed(d, 0), 60, 0);
            C.due("HARD stays", x, x.deed(d, 1), 9, 0);
            C.due("COST stays", x, x.deed(d, 2), 99, 0);
        }
        for (int bad : new int[] {-1, 7, MIN, MAX}) {
            C.due("price of DEED " + bad, x, x.price(bad, 0, 1), false, 2);
            C.due("2 ahead of 5", x, x.price(bad, 1, 100), false, 2);
        }
        for (int wage : new int[] {0, 50}) {
            C.due("hire for " + wage, x, x.hire(5, wage), true, 0);
            C.due("from now on", x, x.payer(5, 2), wage, 0);
        }
        for (int bad : new int[] {-1, 51, MIN, MAX}) {
            C.due("hire for " + bad, x, x.hire(5, bad), false, 5);
            C.due("2 ahead of 5", x, x.hire(6, bad), false, 2);
            C.due("2 ahead of 5", x, x.hire(-1, bad), false, 2);
        }
        C.due("WAGE stays", x, x.payer(5, 2), 50, 0);
        int[][] rules = {{2, 0, 16}, {3, 0, 40}};
        for (int[] r : rules) {
            C.due("rule", x, x.rule(r[0], r[1]), true, 0);
            C.due("from now on", x, x.many(r[0]), r[1], 0);
            C.due("rule", x, x.rule(r[0], r[2]), true, 0);
            C.due("from now on", x, x.many(r[0]), r[2], 0);
            for (int bad : new int[] {-1, r[2] + 1, MIN, MAX}) {
                C.due("rule(" + r[0] + ", " + bad + ")", x, x.rule(r[0], bad), false, 5);
            }
            C.due("it stays", x, x.many(r[0]), r[2], 0);
        }
        for (int bad : new int[] {-1, 0, 1, 4, MIN, MAX}) {
            C.due("rule(" + bad + ", 1)", x, x.rule(bad, 1), false, 5);
        }
    }

    private static void forgiveEdges() {
        AlmostTax x = Check.landOf("deed d rate 2 hard 2 cost 0;payer p house 0 purse 0 wage 0;payer q house 0;near p d 1;");
        C.due("nothing", x, x.forgive(0), -1, 8);
        x.year(1);
        C.due("1", x, x.forgive(0), 1, 0);
        C.due("nothing more", x, x.forgive(0), -1, 8);
        C.due("he OWES nothing", x, x.payer(0, 4), 0, 0);
        C.due("he has PAID nothing", x, x.payer(0, 3), 0, 0);
        x.year(99);
        C.due("99", x, x.forgive(0), 99, 0);
        C.due("of who OWES nothing", x, x.forgive(1), -1, 8);
        for (int bad : new int[] {-1, 2, MIN, MAX}) {
            C.due("forgive(" + bad + ")", x, x.forgive(bad), -1, 2);
        }
    }

    private static void comeEdges() {
        AlmostTax x = new AlmostTax();
        for (int bad : new int[] {-1, 100, MIN, MAX}) {
            C.due("come(" + bad + ")", x, x.come(bad), -1, 5);
        }
        C.due("nobody came", x, x.many(1), 0, 0);
        for (int p = 0; p < 6; p++) {
            C.due("come", x, x.come(p == 0 ? 0 : 99), p, 0);
            int[] due = {p == 0 ? 0 : 99, 50, 10, 0, 0, 0, 0, 0};
            for (int what = 0; what < 8; what++) {
                C.due("who came, " + what, x, x.payer(p, what), due[what], 0);
            }
        }
        C.due("a seventh", x, x.come(0), -1, 7);
        C.due("5 ahead of 7", x, x.come(100), -1, 5);
        C.due("six", x, x.many(1), 6, 0);
        // who comes where others were, near, in debt, ahead of a LAND anew or of what is taken back
        AlmostTax y = full();
        y.year(9);
        Check.land(y, "deed a rate 60 hard 9 cost 9;");
        C.due("come", y, y.come(3), 0, 0);
        C.due("near to nothing", y, y.near(0, 0), 0, 0);
        C.due("has PAID nothing", y, y.payer(0, 3), 0, 0);
        C.due("OWES nothing", y, y.payer(0, 4), 0, 0);
        y.mark();
        y.come(4);
        y.step(1, 0);
        y.step(1, 0);
        y.hire(1, 0);
        y.price(0, 0, 60);
        y.year(99);
        C.due("he OWES", y, y.payer(1, 4) > 0, true, 0);
        y.back();
        C.due("come again", y, y.come(5), 1, 0);
        int[] due = {5, 50, 10, 0, 0, 0, 0, 0};
        for (int what = 0; what < 8; what++) {
            C.due("who came again, " + what, y, y.payer(1, what), due[what], 0);
        }
        C.due("near to nothing", y, y.near(1, 0), 0, 0);
    }

    private static void dreamEdges() {
        AlmostTax x = Check.landOf("payer p house 0;payer q house 0;");
        int[][] bad = {{-1, 1, 0}, {61, 1, 0}, {0, 0, 0}, {0, 10, 0}, {0, 1, -1}, {0, 1, 100},
            {MIN, 1, 0}, {MAX, 1, 0}, {0, MIN, 0}, {0, MAX, 0}, {0, 1, MIN}, {0, 1, MAX}};
        for (int[] b : bad) {
            C.due("dream of what can't be", x, x.dream(b[0], b[1], b[2]), -1, 5);
        }
        C.due("nothing was dreamt", x, x.many(0), 0, 0);
        int[][] good = {{0, 1, 0}, {60, 9, 99}, {0, 9, 0}, {60, 1, 0}, {60, 1, 99}, {0, 1, 99}, {30, 5, 50}};
        for (int d = 0; d < 7; d++) {
            int[] g = good[d];
            C.due("dream", x, x.dream(g[0], g[1], g[2]), d, 0);
            for (int what = 0; what < 3; what++) {
                C.due("as dreamt", x, x.deed(d, what), g[what], 0);
            }
            C.due("DONE by nobody", x, x.deed(d, 4), 0, 0);
            C.due("nobody is near", x, x.deed(d, 5), 0, 0);
        }
        C.due("an eighth", x, x.dream(0, 1, 0), -1, 7);
        for (int[] b : bad) {
            C.due("5 ahead of 7", x, x.dream(b[0], b[1], b[2]), -1, 5);
        }
        C.due("seven", x, x.many(0), 7, 0);
        AlmostTax y = full();
        Check.land(y, "payer p house 0;");
        C.due("where others were near", y, y.dream(60, 9, 0), 0, 0);
        C.due("nobody is", y, y.near(0, 0), 0, 0);
        y.mark();
        y.dream(60, 9, 0);
        y.step(0, 1);
        y.back();
        C.due("dreamt again", y, y.dream(60, 9, 0), 1, 0);
        C.due("nobody is near", y, y.near(0, 1), 0, 0);
    }

    // ---- promises 28 to 31: plans

    private static void planEdges() {
        AlmostTax x = full();
        for (int bad : new int[] {0, -1, 21, MIN, MAX}) {
            C.due("plan(0, " + bad + ")", x, x.plan(0, bad), -1, 5);
            C.due("planSet(0, " + bad + ")", x, x.planSet(0, bad), -1, 5);
        }
        for (int bad : new int[] {-1, 6, MIN, MAX}) {
            C.due("plan(" + bad + ", 1)", x, x.plan(bad, 1), -1, 2);
            C.due("planSet(" + bad + ", 1)", x, x.planSet(bad, 1), -1, 2);
            C.due("2 ahead of 5", x, x.plan(bad, 0), -1, 2);
            C.due("2 ahead of 5", x, x.planSet(bad, 21), -1, 2);
        }
        C.due("a PURSE for none, 1 YEAR", x, x.plan(5, 1), 371, 0);
        C.due("a PURSE for none, 20 YEARS", x, x.plan(5, 20), 20 * 371, 0);
        C.due("the empty set", x, x.planSet(5, 20), 0, 0);
        for (int d = 0; d < 7; d++) {
            x.price(d, 2, 7);
        }
        C.due("all seven", x, x.planSet(5, 1), 127, 0);
        C.due("for 49 of 50", x, x.plan(5, 1), 49, 0);
        x.price(6, 2, 8);
        C.due("all seven for 50 of 50", x, x.planSet(5, 1), 127, 0);
        C.due("for 50", x, x.plan(5, 1), 50, 0);
        x.price(6, 2, 9);
        C.due("51 of 50 can't be: all but the dearest", x, x.planSet(5, 1), 63, 0);
        C.due("42 and the TAX of one", x, x.plan(5, 1), 42 + 53, 0);
        x.rule(3, 40);
        C.due("the ALLOWANCE counts each YEAR", x, x.plan(5, 20), 42 + 20 * 13, 0);
        C.due("nothing was done", x, x.payer(5, 6), 0, 0);
        C.due("nothing was spent", x, x.payer(5, 1), 50, 0);
        AlmostTax y = Check.landOf("payer p house 0;");
        C.due("no DEEDS", y, y.plan(0, 20), 0, 0);
        C.due("no DEEDS", y, y.planSet(0, 20), 0, 0);
    }

    private static void planOfSeveral() {
        AlmostTax x = Check.landOf("deed a rate 20 hard 2 cost 10;deed b rate 20 hard 2 cost 10;deed c rate 2 hard 2 cost 1;"
            + "payer p house 0 purse 10;near p a 1;near p b 1;near p c 1;");
        C.due("a COST as much as its TAX: the fewest", x, x.planSet(0, 1), 0, 0);
        C.due("as much either way", x, x.plan(0, 1), 21, 0);
        C.due("of two alike the least", x, x.planSet(0, 2), 1, 0);
        x.price(0, 2, 11);
        C.due("the other if the PURSE is not enough for the least", x, x.planSet(0, 2), 2, 0);
        x = Check.landOf("deed a rate 10 hard 2 cost 5;deed b rate 10 hard 2 cost 5;deed c rate 20 hard 2 cost 10;"
            + "payer p house 0 purse 10;near p a 1;near p b 1;near p c 1;");
        C.due("the fewest, though its number is greater", x, x.planSet(0, 3), 4, 0);
        x = Check.landOf("deed a rate 0 hard 2 cost 0;deed b rate 60 hard 2 cost 0;deed c rate 60 hard 2 cost 0;payer p house 0 purse 0;"
            + "near p a 1;near p b 1;");
        C.due("what changes nothing is not done, at COST 0 neither", x, x.planSet(0, 20), 2, 0);
        C.due("nothing is paid", x, x.plan(0, 20), 0, 0);
        x = Check.landOf("allow 10;deed a rate 20 hard 2 cost 0;deed b rate 40 hard 2 cost 0;payer p house 0;near p a 1;near p b 1;");
        C.due("the rest is within the ALLOWANCE", x, x.planSet(0, 5), 2, 0);
        x.rule(3, 30);
        C.due("all is within the ALLOWANCE", x, x.planSet(0, 5), 0, 0);
        x = Check.landOf("deed a rate 60 hard 2 cost 0;deed b rate 60 hard 2 cost 3;payer p house 0;near p b 1;done p a;");
        C.due("what is DONE is in no PLAN", x, x.planSet(0, 5), 2, 0);
        x.step(0, 1);
        C.due("all is DONE", x, x.planSet(0, 5), 0, 0);
        C.due("nothing is paid", x, x.plan(0, 5), 0, 0);
    }

    /** LURE: the least RATE (0 to 60); 8: by none, 9: it is DONE by him. */
    private static void lureEdges() {
        AlmostTax x = Check.landOf("deed a rate 5 hard 2 cost 30;deed b rate 5 hard 9 cost 0;deed c rate 9 hard 3 cost 0;"
            + "payer p house 0 purse 50;payer q house 0 purse 29;near p a 1;near q a 1;near p b 1;done p c;");
        C.due("30 of 60 are no more than 30", x, x.lure(0, 0, 1), -1, 8);
        C.due("two YEARS of 16 are", x, x.lure(0, 0, 2), 32, 0);
        C.due("20 YEARS of 2 are", x, x.lure(0, 0, 20), 4, 0);
        x.price(0, 2, 29);
        C.due("30 of 60 are more than 29", x, x.lure(0, 0, 1), 60, 0);
        C.due("the PURSE is just enough", x, x.lure(1, 0, 1), 60, 0);
        x.price(0, 2, 30);
        C.due("the PURSE is not enough", x, x.lure(1, 0, 20), -1, 8);
        C.due("a PART of 1 at COST 0", x, x.lure(0, 1, 1), 9, 0);
        C.due("near to nothing", x, x.lure(1, 1, 20), -1, 8);
        C.due("RATE stays", x, x.deed(0, 0), 5, 0);
        C.due("it is DONE by him: 9, not 8", x, x.lure(0, 2, 1), -1, 9);
        C.due("5 ahead of 9", x, x.lure(0, 2, 0), -1, 5);
        C.due("5 ahead of 8", x, x.lure(1, 1, 21), -1, 5);
        for (int bad : new int[] {0, -1, 21, MIN, MAX}) {
            C.due("lure(0, 0, " + bad + ")", x, x.lure(0, 0, bad), -1, 5);
        }
        for (int bad : new int[] {-1, 3, MIN, MAX}) {
            C.due("PAYER " + bad, x, x.lure(bad, 0, 1), -1, 2);
            C.due("DEED " + bad, x, x.lure(0, bad, 1), -1, 2);
            C.due("2 ahead of 5", x, x.lure(bad, 0, 0), -1, 2);
            C.due("2 ahead of 5", x, x.lure(0, bad, 21), -1, 2);
        }
        x = Check.landOf("allow 20;deed a rate 0 hard 2 cost 0;payer p house 0;near p a 1;");
        C.due("above the ALLOWANCE", x, x.lure(0, 0, 1), 42, 0);
        x.rule(3, 30);
        C.due("never above the ALLOWANCE", x, x.lure(0, 0, 20), -1, 8);
        x = Check.landOf("deed a rate 40 hard 2 cost 50;deed b rate 0 hard 2 cost 50;payer p house 0;near p a 1;near p b 1;");
        C.due("a DEED for which the PURSE is used up: above that", x, x.lure(0, 1, 20), 42, 0);
        C.due("the first of two alike: as much as that", x, x.lure(0, 0, 20), 6, 0);
        x.price(1, 0, 40);
        C.due("the first of two alike", x, x.lure(0, 0, 20), 40, 0);
        C.due("the second of two alike", x, x.lure(0, 1, 20), 42, 0);
    }

    /** In how many YEARS (1 to 99) a PAYER OWES first (0: he does); 8: in none. */
    private static void owesInEdges() {
        AlmostTax x = Check.landOf("deed d rate 2 hard 2 cost 0;payer a house 0 purse 0 wage 0;payer b house 0 purse 1 wage 0;"
            + "payer c house 0 purse 98 wage 0;payer e house 0 purse 99 wage 0;payer f house 0 purse 0 wage 1;payer g house 0 purse 0 wage 0;"
            + "near a d 1;near b d 1;near c d 1;near e d 1;near f d 1;");
        C.due("in one YEAR", x, x.owesIn(0), 1, 0);
        C.due("just enough for one", x, x.owesIn(1), 2, 0);
        C.due("in 99 YEARS", x, x.owesIn(2), 99, 0);
        C.due("in 100 YEARS: in none of 99", x, x.owesIn(3), -1, 8);
        C.due("just enough each YEAR", x, x.owesIn(4), -1, 8);
        C.due("who is not taxed", x, x.owesIn(5), -1, 8);
        C.due("no YEAR went by", x, x.many(4), 0, 0);
        C.due("nothing was PAID", x, x.many(5), 0, 0);
        x.year(1);
        C.due("he does", x, x.owesIn(0), 0, 0);
        C.due("a YEAR less", x, x.owesIn(2), 98, 0);
        C.due("in 99 YEARS now", x, x.owesIn(3), 99, 0);
        x.forgive(0);
        C.due("he did", x, x.owesIn(0), 1, 0);
        for (int bad : new int[] {-1, 6, MIN, MAX}) {
            C.due("owesIn(" + bad + ")", x, x.owesIn(bad), -1, 2);
        }
        x = Check.landOf("payer p house 0 purse 999 wage 50;");
        x.year(99);
        x.year(81);
        for (int d = 0; d < 6; d++) {
            x.dream(d == 0 ? 10 : 60, 2, 0);
            x.step(0, d);
        }
        // of 9,999 he keeps 9,844, then 105 less each YEAR: 79 behind 94 of them
        C.due("PURSE is 9,999 at most there, too", x, x.owesIn(0), 95, 0);
    }

    // ---- promises 32 to 35: receipts

    private static void fitsEdges() {
        AlmostTax x = Check.landOf("deed a rate 12 hard 2 cost 0;deed b rate 24 hard 2 cost 0;deed c rate 36 hard 2 cost 0;");
        x.tray(0, 1, 40);
        C.due("20 twos of 40 numbers (nothing of nothing)", x, x.fits(0, 20), 8, 0);
        C.due("21 twos of 40 numbers", x, x.fits(0, 21), -1, 4);
        x.tray(0, 1, 39);
        C.due("20 twos of 39 numbers", x, x.fits(0, 20), -1, 4);
        C.due("19 twos of 39 numbers", x, x.fits(0, 19), 8, 0);
        x.tray(0, 1, 42);
        C.due("21 twos of 42 numbers", x, x.fits(0, 21), -1, 5);
        x.tray(0, 1, 60);
        C.due("30 twos of 60 numbers", x, x.fits(0, 30), -1, 5);
        C.due("31 twos of 60 numbers", x, x.fits(0, 31), -1, 4);
        for (int n : new int[] {-1, MIN}) {
            C.due("fits(0, " + n + ")", x, x.fits(0, n), -1, 5);
            C.due("fitsAt(0, " + n + ", 0)", x, x.fitsAt(0, n, 0), -1, 5);
            C.due("sure(0, " + n + ")", x, x.sure(0, n), -1, 5);
            C.due("ask(0, " + n + ")", x, x.ask(0, n), -1, 5);
        }
        for (int n : new int[] {MAX, 1 << 30, (1 << 30) + 1, 1 << 31 - 1}) {
            C.due("twice " + n + " wraps around", x, x.fits(0, n), -1, 4);
            C.due("twice " + n + " wraps around", x, x.fitsAt(0, n, 0), -1, 4);
            C.due("twice " + n + " wraps around", x, x.sure(0, n), -1, 4);
            C.due("twice " + n + " wraps around", x, x.ask(0, n), -1, 4);
        }
        x.tray(1, 0, 0);
        C.due("no twos of a TRAY of none", x, x.fits(1, 0), 8, 0);
        C.due("one two of a TRAY of none", x, x.fits(1, 1), -1, 4);
        C.due("-1 of a TRAY of none", x, x.fits(1, -1), -1, 5);
        for (int bad : new int[] {-1, 4, MIN, MAX}) {
            C.due("no such TRAY, fits", x, x.fits(bad, -1), -1, 1);
            C.due("no such TRAY, fitsAt", x, x.fitsAt(bad, -1, -1), -1, 1);
            C.due("no such TRAY, sure", x, x.sure(bad, 99), -1, 1);
            C.due("no such TRAY, ask", x, x.ask(bad, 99), -1, 1);
        }
        C.due("MISSING ahead of 4, 5", x, x.fits(3, 99), -1, 3);
        C.due("4 ahead of 8", x, x.fitsAt(0, 31, -1), -1, 4);
        C.due("5 ahead of 8", x, x.fitsAt(0, 21, -1), -1, 5);
        x.write(0, 0, 7);
        x.write(0, 1, 18);
        C.due("a and b, or c", x, x.fits(0, 1), 2, 0);
        C.due("by numbers", x, x.fitsAt(0, 1, 0), 3, 0);
        C.due("by numbers", x, x.fitsAt(0, 1, 1), 4, 0);
        C.due("no such", x, x.fitsAt(0, 1, 2), -1, 8);
        C.due("no such", x, x.fitsAt(0, 1, -1), -1, 8);
        C.due("no such", x, x.fitsAt(0, 1, MAX), -1, 8);
        C.due("no such", x, x.fitsAt(0, 1, MIN), -1, 8);
        numbersOfTwos();
    }

    /** By twos a set of DEEDS (5: with what there is none of) and a number (0 to 999). */
    private static void numbersOfTwos() {
        long[][] twos = {{7, 999, 0}, {7, 1000, 5}, {7, -1, 5}, {7, 0, 1}, {8, 0, 5}, {-1, 0, 5}, {0, 0, 8}, {0, 999, 0}, {0, 1, 0},
            {127, 0, 5}, {1L << 32, 0, 5}, {(1L << 32) + 7, 0, 5}, {7, 1L << 32, 5}, {Long.MIN_VALUE, 0, 5}, {7, Long.MIN_VALUE, 5},
            {Long.MAX_VALUE, 0, 5}, {7, Long.MAX_VALUE, 5}};
        for (long[] t : twos) {
            AlmostTax x = Check.landOf("deed a rate 12 hard 2 cost 0;deed b rate 24 hard 2 cost 0;deed c rate 36 hard 2 cost 0;");
            x.tray(2, 3, 4);
            x.write(2, 2, t[0]);
            x.write(2, 3, t[1]);
            String why = "a set " + t[0] + ", a number " + t[1];
            C.due(why + ", not yet", x, x.fits(2, 1), 8, 0);
            if (t[2] == 5) {
                C.due(why, x, x.fits(2, 2), -1, 5);
                C.due(why, x, x.fitsAt(2, 2, 0), -1, 5);
                C.due(why, x, x.sure(2, 2), -1, 5);
                C.due(why, x, x.ask(2, 2), -1, 5);
            } else {
                C.due(why, x, x.fits(2, 2), t[2], 0);
            }
            x.pour(2, 2, 2, 0, 2);
            C.due(why + ", as the first", x, x.fits(2, 1), t[2] == 5 ? -1 : t[2], t[2] == 5 ? 5 : 0);
        }
        AlmostTax x = new AlmostTax();
        x.tray(0, 0, 2);
        C.due("no DEEDS: the empty set", x, x.fits(0, 1), 1, 0);
        C.due("no DEEDS: it is empty", x, x.fitsAt(0, 1, 0), 0, 0);
        C.due("no DEEDS: sure of nothing", x, x.sure(0, 1), 0, 0);
        C.due("no DEEDS: nothing to ask", x, x.ask(0, 1), -1, 8);
        x.write(0, 0, 1);
        C.due("no DEEDS: no set but the empty one", x, x.fits(0, 1), -1, 5);
    }

    private static void fitsOfAFullLand() {
        AlmostTax x = full();
        x.tray(0, 1, 2);
        C.due("128 sets", x, x.fits(0, 0), 128, 0);
        C.due("the first", x, x.fitsAt(0, 0, 0), 0, 0);
        C.due("the last", x, x.fitsAt(0, 0, 127), 127, 0);
        C.due("no such", x, x.fitsAt(0, 0, 128), -1, 8);
        x.write(0, 0, 127);
        int[] ways = {1, 7, 21, 35, 35, 21, 7, 1};
        for (int k = 0; k <= 7; k++) {
            x.write(0, 1, 53 * k);
            C.due("sets of " + k, x, x.fits(0, 1), ways[k], 0);
            C.due("the first of them", x, x.fitsAt(0, 1, 0), (1 << k) - 1, 0);
            C.due("the last of them", x, x.fitsAt(0, 1, ways[k] - 1), ((1 << k) - 1) << 7 - k, 0);
            C.due("sure", x, x.sure(0, 1), k == 7 ? 127 : 0, 0);
        }
        C.due("ask: all seven", x, x.ask(0, 0), 127, 0);
        x.write(0, 1, 372);
        C.due("none of 372", x, x.fits(0, 1), 0, 0);
        x.write(0, 0, 64);
        x.write(0, 1, 53);
        C.due("half of them", x, x.fits(0, 1), 64, 0);
        C.due("sure of the last DEED", x, x.sure(0, 1), 64, 0);
        // by five of the other six 20 have one number, by all six, too
        C.due("ask: the least of several", x, x.ask(0, 1), 31, 0);
        x.write(0, 0, 128);
        C.due("no such DEED", x, x.fits(0, 1), -1, 5);
    }

    private static void sureAndAsk() {
        AlmostTax x = Check.landOf("deed a rate 12 hard 2 cost 0;deed b rate 24 hard 2 cost 0;deed c rate 0 hard 9 cost 0;");
        x.tray(0, 1, 4);
        x.write(0, 0, 3);
        x.write(0, 1, 6);
        x.write(0, 2, 1);
        x.write(0, 3, 0);
        C.due("two fit", x, x.fits(0, 1), 2, 0);
        C.due("sure of what is in both", x, x.sure(0, 1), 1, 0);
        C.due("two that nothing parts: the least set", x, x.ask(0, 1), 0, 0);
        C.due("none fit", x, x.fits(0, 2), 0, 0);
        C.due("none fit: sure", x, x.sure(0, 2), -1, 8);
        C.due("none fit: ask", x, x.ask(0, 2), -1, 8);
        C.due("none fit: the first", x, x.fitsAt(0, 2, 0), -1, 8);
        x = Check.landOf("deed a rate 12 hard 2 cost 0;");
        x.tray(0, 1, 2);
        C.due("two fit", x, x.ask(0, 0), 1, 0);
        x.write(0, 0, 1);
        x.write(0, 1, 6);
        C.due("one fits: sure", x, x.sure(0, 1), 1, 0);
        C.due("one fits: ask", x, x.ask(0, 1), -1, 8);
        x.write(0, 1, 0);
        C.due("the empty set fits", x, x.sure(0, 1), 0, 0);
        x = Check.landOf("deed a rate 12 hard 2 cost 0;deed b rate 12 hard 2 cost 0;deed c rate 24 hard 2 cost 0;");
        x.tray(0, 1, 0);
        // by a and c, or b and c, all four numbers are unlike: two of one number each
        C.due("of several the least", x, x.ask(0, 0), 5, 0);
    }

    // ---- promises 36 to 40: rounds, splits, help

    private static void roundsEdges() {
        AlmostTax x = full();
        int[] due = {0, 95, 38, 19, 19, 19, 0};
        for (int k = 1; k <= 6; k++) {
            C.due("six HOUSES, rounds " + k, x, x.rounds(k), due[k], 0);
        }
        for (int bad : new int[] {0, 7, -1, MIN, MAX}) {
            C.due("rounds(" + bad + ")", x, x.rounds(bad), -1, 5);
        }
        x = Check.landOf("deed d rate 2 hard 2 cost 0;payer a house 99;payer b house 0;payer c house 50;near a d 1;near b d 1;");
        C.due("TAX of 1 is above 0, of 0 is not", x, x.rounds(2), 0, 0);
        C.due("the whole road", x, x.rounds(1), 99, 0);
        C.due("fewer PAYERS than inspectors", x, x.rounds(6), 0, 0);
        x.step(2, 0);
        C.due("the third, too", x, x.rounds(2), 49, 0);
        x.rule(3, 1);
        C.due("nobody is taxed", x, x.rounds(1), 0, 0);
        x = Check.landOf("deed d rate 2 hard 2 cost 0;payer a house 7;payer b house 7;payer c house 7;near a d 1;near b d 1;near c d 1;");
        C.due("one HOUSE of all", x, x.rounds(1), 0, 0);
        C.due("one HOUSE of all", x, x.crew(0), 1, 0);
    }

    private static void crewEdges() {
        AlmostTax x = full();
        int[][] due = {{0, 6}, {18, 6}, {19, 3}, {37, 3}, {38, 2}, {94, 2}, {95, 1}, {99, 1}};
        for (int[] d : due) {
            C.due("crew(" + d[0] + ")", x, x.crew(d[0]), d[1], 0);
        }
        for (int bad : new int[] {-1, 100, MIN, MAX}) {
            C.due("crew(" + bad + ")", x, x.crew(bad), -1, 5);
        }
        x = Check.landOf("deed d rate 2 hard 2 cost 0;payer a house 99;payer b house 0;payer c house 50;near a d 1;near b d 1;");
        C.due("1 too short", x, x.crew(98), 2, 0);
        C.due("just enough", x, x.crew(99), 1, 0);
        x.rule(3, 1);
        C.due("nobody is taxed", x, x.crew(0), 0, 0);
        C.due("nobody is taxed", x, x.crew(99), 0, 0);
    }

    private static void splitEdges() {
        AlmostTax x = full();
        C.dueFraction("one of six alike", x, x.split(5, 6), 1, 6);
        for (int bad : new int[] {-1, 6, MIN, MAX}) {
            C.due("PAYER " + bad, x, x.split(bad, 0), false, 2);
        }
        for (int bad : new int[] {-1, 7, MIN, MAX}) {
            C.due("DEED " + bad, x, x.split(0, bad), false, 2);
        }
        C.due("the FRACTION stays", x.bottom(), 6);
        x.price(6, 2, 0);
        x.step(0, 6);
        C.dueFraction("who has DONE it is not counted", x, x.split(5, 6), 1, 5);
        C.due("it is DONE by him", x, x.split(0, 6), false, 9);
        x = Check.landOf("deed d rate 0 hard 2 cost 0;payer p house 0;payer q house 0;");
        C.due("nobody is near", x, x.split(0, 0), false, 8);
        C.due("0 by 1 stays", x.bottom(), 1);
        x.step(0, 0);
        C.dueFraction("he alone", x, x.split(0, 0), 1, 1);
        C.dueFraction("the other has nothing", x, x.split(1, 0), 0, 1);
        x.step(0, 0);
        C.due("it is DONE by him: 9, not 8", x, x.split(0, 0), false, 9);
        C.due("nobody who has not DONE it is near", x, x.split(1, 0), false, 8);
        C.due("the FRACTION stays", x.top(), 0);
    }

    private static void helpEdges() {
        AlmostTax x = full();
        C.due("six of six", x, x.help(), 6, 0);
        for (int p = 0; p < 6; p++) {
            C.due("each the least that is left", x, x.helped(p), p, 0);
        }
        for (int bad : new int[] {-1, 6, MIN, MAX}) {
            C.due("helped(" + bad + ")", x, x.helped(bad), -1, 2);
        }
        StringBuilder b = new StringBuilder("deed d rate 0 hard 2 cost 99;");
        for (char c = 'p'; c < 'v'; c++) {
            b.append("payer ").append(c).append(" house 0;near ").append(c).append(" d 1;");
        }
        x = Check.landOf(b.toString());
        C.due("one of six, at RATE 0", x, x.help(), 1, 0);
        C.due("the first is told it", x, x.helped(0), 0, 0);
        for (int p = 1; p < 6; p++) {
            C.due("the others none", x, x.helped(p), -1, 8);
        }
        // the same asked behind a fuller LAND
        Check.land(x, "payer a house 0;");
        C.due("none where there is no DEED", x, x.help(), 0, 0);
        C.due("none is told", x, x.helped(0), -1, 8);
        x = Check.landOf("deed d rate 1 hard 1 cost 0;deed e rate 1 hard 2 cost 0;payer p house 0;payer q house 0;near q e 1;");
        C.due("who is CONTENT is told none", x, x.helped(0), -1, 8);
        C.due("one", x, x.help(), 1, 0);
        x.step(1, 1);
        C.due("what is DONE is told to none", x, x.help(), 0, 0);
        C.due("what is DONE is told to none", x, x.helped(1), -1, 8);
    }

    private static String wants(String... sets) {
        StringBuilder b = new StringBuilder();
        for (int d = 0; d < 7; d++) {
            b.append("deed ").append((char) ('a' + d)).append(" rate 9hard 2cost 0;");
        }
        for (int p = 0; p < sets.length; p++) {
            b.append("payer ").append((char) ('u' + p)).append(" house 0;");
            for (char d : sets[p].toCharArray()) {
                b.append("near ").append((char) ('u' + p)).append(' ').append(d).append(" 1;");
            }
        }
        return b.toString();
    }

    private static void dueHelp(String why, int[] due, String... sets) {
        AlmostTax x = Check.landOf(wants(sets));
        int told = 0;
        for (int p = 0; p < due.length; p++) {
            C.due(why + ": helped(" + p + ")", x, x.helped(p), due[p], due[p] < 0 ? 8 : 0);
            told += due[p] < 0 ? 0 : 1;
        }
        C.due(why, x, x.help(), told, 0);
    }

    /** As many as can be; of several ways that in which each, one by one, has the least (none comes behind all). */
    private static void helpedEdges() {
        dueHelp("the least would leave the second without", new int[] {1, 0}, "ab", "a");
        dueHelp("a chain to the end", new int[] {1, 2, 3, 4, 5, 0}, "ab", "bc", "cd", "de", "ef", "a");
        dueHelp("the last DEED", new int[] {5, 6, 4, 3, 2, 1}, "fg", "g", "e", "d", "c", "b");
        dueHelp("none comes behind all", new int[] {0, -1, 1}, "a", "a", "ab");
        dueHelp("who is told none comes as late as can be", new int[] {0, 1, -1}, "ab", "ab", "ab");
        dueHelp("a hole among them", new int[] {0, -1, -1, -1, -1, 6}, "a", "", "a", "", "a", "ag");
        dueHelp("all want the last", new int[] {6, -1, -1}, "g", "g", "g");
        dueHelp("the least by the first, whatever the others have", new int[] {0, 6}, "abcdefg", "ag");
        dueHelp("all are CONTENT", new int[] {-1, -1}, "", "");
    }

    // ---- promises 41 to 44: games, odds

    private static void gameEdges() {
        AlmostTax x = full();
        for (int turns = 0; turns <= 4; turns++) {
            C.due("no PURSE is enough, turns " + turns, x, x.game(0, 5, turns), 0, 0);
        }
        for (int d = 0; d < 7; d++) {
            x.price(d, 2, 30);
        }
        int[] due = {0, 53, 0, 0, 0};
        for (int turns = 0; turns <= 4; turns++) {
            C.due("a PURSE for one DEED, turns " + turns, x, x.game(0, 5, turns), due[turns], 0);
        }
        x.price(6, 2, 20);
        int[] two = {0, 53, 0, 53, 0};
        for (int turns = 0; turns <= 4; turns++) {
            C.due("a PURSE for two DEEDS, turns " + turns, x, x.game(5, 0, turns), two[turns], 0);
        }
        C.due("all stays", x, x.many(7), 6 * 371, 0);
        C.due("PURSES stay", x, x.many(9), 300, 0);
        for (int bad : new int[] {-1, 5, MIN, MAX}) {
            C.due("game(0, 1, " + bad + ")", x, x.game(0, 1, bad), -1, 5);
            C.due("2 ahead of 5", x, x.game(6, 1, bad), -1, 2);
        }
        for (int bad : new int[] {-1, 6, MIN, MAX}) {
            C.due("game(" + bad + ", 0, 0)", x, x.game(bad, 0, 0), -1, 2);
            C.due("game(0, " + bad + ", 0)", x, x.game(0, bad, 0), -1, 2);
            C.due("one who is none and himself", x, x.game(bad, bad, 0), -1, 2);
        }
        C.due("one and himself", x, x.game(3, 3, 0), -1, 5);
        x = Check.landOf("deed a rate 60 hard 9 cost 0;payer p house 0;payer q house 0;");
        for (int turns = 0; turns <= 4; turns++) {
            C.due("nothing is the best", x, x.game(0, 1, turns), 0, 0);
        }
        x = Check.landOf("payer p house 0;payer q house 0;");
        C.due("no DEEDS", x, x.game(0, 1, 4), 0, 0);
        x = Check.landOf("deed a rate 30 hard 3 cost 0;payer p house 0;payer q house 0;near p a 1;near q a 1;");
        int[] far = {0, 0, 0, 10, 0};
        for (int turns = 0; turns <= 4; turns++) {
            C.due("two STEPS, if there are turns for both, turns " + turns, x, x.game(0, 1, turns), far[turns], 0);
        }
        // what was played is of the LAND as it is now
        x.step(0, 0);
        C.due("a STEP later", x, x.game(0, 1, 0), 10 - 20, 0);
        C.due("a STEP later", x, x.game(0, 1, 1), 10, 0);
        C.due("the other way", x, x.game(1, 0, 1), 20 - 10, 0);
        x.rule(3, 15);
        C.due("TAX is 0 at least", x, x.game(0, 1, 0), 0 - 5, 0);
        C.due("TAX is 0 at least", x, x.game(0, 1, 1), 0, 0);
    }

    private static void moveEdges() {
        AlmostTax x = full();
        for (int turns = 1; turns <= 4; turns++) {
            C.due("no STEP can be, turns " + turns, x, x.moveOf(0, 5, turns), -1, 8);
        }
        for (int d = 0; d < 7; d++) {
            x.price(d, 2, 0);
        }
        for (int d = 0; d < 7; d++) {
            for (int turns = 1; turns <= 4; turns++) {
                C.due("of all that are as good the first", x, x.moveOf(0, 5, turns), d, 0);
            }
            x.step(0, d);
        }
        C.due("all is DONE", x, x.moveOf(0, 5, 4), -1, 8);
        for (int bad : new int[] {0, -1, 5, MIN, MAX}) {
            C.due("moveOf(0, 1, " + bad + ")", x, x.moveOf(0, 1, bad), -1, 5);
            C.due("2 ahead of 5", x, x.moveOf(0, 6, bad), -1, 2);
        }
        for (int bad : new int[] {-1, 6, MIN, MAX}) {
            C.due("moveOf(" + bad + ", 0, 1)", x, x.moveOf(bad, 0, 1), -1, 2);
            C.due("moveOf(0, " + bad + ", 1)", x, x.moveOf(0, bad, 1), -1, 2);
        }
        C.due("one and himself", x, x.moveOf(3, 3, 1), -1, 5);
        x = Check.landOf("deed a rate 60 hard 9 cost 0;deed b rate 0 hard 9 cost 0;payer p house 0;payer q house 0;");
        C.due("nothing comes last", x, x.moveOf(0, 1, 1), 1, 0);
        x.price(1, 0, 60);
        C.due("nothing is better", x, x.moveOf(0, 1, 1), -1, 8);
        x = Check.landOf("deed a rate 20 hard 2 cost 0;deed b rate 30 hard 3 cost 0;payer p house 0;payer q house 0;near p a 1;near p b 1;");
        C.due("one turn", x, x.moveOf(0, 1, 1), 0, 0);
        C.due("two turns are one of his own", x, x.moveOf(0, 1, 2), 0, 0);
        x.price(1, 0, 45);
        C.due("three turns are two of his own", x, x.moveOf(0, 1, 3), 1, 0);
        C.due("four turns are two of his own", x, x.moveOf(0, 1, 4), 1, 0);
        C.due("two turns", x, x.moveOf(0, 1, 2), 0, 0);
        // what is moved is of the LAND as it is now
        x.step(0, 0);
        C.due("a STEP later", x, x.moveOf(0, 1, 1), -1, 8);
        C.due("a STEP later", x, x.moveOf(0, 1, 3), 1, 0);
        x = Check.landOf("payer p house 0;payer q house 0;");
        C.due("no DEEDS", x, x.moveOf(0, 1, 1), -1, 8);
    }

    private static void luckEdges() {
        AlmostTax x = full();
        long[] ways = {128, 127, 120, 99, 64, 29, 8, 1};
        for (int k = 0; k <= 7; k++) {
            long divisor = Math.min(128, Long.lowestOneBit(ways[k]));
            C.dueFraction("by halves, " + k, x, x.luck(5, k), ways[k] / divisor, 128 / divisor);
        }
        for (int bad : new int[] {-1, 8, MIN, MAX}) {
            C.due("luck(0, " + bad + ")", x, x.luck(0, bad), false, 5);
            C.due("2 ahead of 5", x, x.luck(6, bad), false, 2);
            C.due("2 ahead of 5", x, x.luck(-1, bad), false, 2);
        }
        C.due("the FRACTION stays", x.bottom(), 128);
        x.rule(2, 1);
        C.dueFraction("ODDS 1, all", x, x.luck(5, 7), 1, 1L << 28);
        C.dueFraction("ODDS 1, one or more", x, x.luck(5, 1), (1L << 28) - 170859375, 1L << 28);
        x.rule(2, 15);
        C.dueFraction("ODDS 15, all", x, x.luck(5, 7), 170859375, 1L << 28);
        x.rule(2, 0);
        for (int k = 0; k <= 7; k++) {
            C.dueFraction("ODDS 0, " + k, x, x.luck(5, k), k == 0 ? 1 : 0, 1);
        }
        x.rule(2, 16);
        for (int k = 0; k <= 7; k++) {
            C.dueFraction("ODDS 16, " + k, x, x.luck(5, k), 1, 1);
        }
        x = Check.landOf("deed d rate 0 hard 2 cost 99;payer p house 0 purse 0;payer q house 0;");
        C.dueFraction("near to nothing, none or more", x, x.luck(0, 0), 1, 1);
        C.dueFraction("near to nothing, one or more", x, x.luck(0, 1), 0, 1);
        x.step(0, 0);
        C.dueFraction("whatever it is", x, x.luck(0, 1), 1, 2);
        C.dueFraction("two of one", x, x.luck(0, 2), 0, 1);
        x.price(0, 2, 0);
        x.step(0, 0);
        C.dueFraction("what is DONE does not count", x, x.luck(0, 1), 0, 1);
    }

    private static void bearsEdges() {
        AlmostTax x = full();
        C.dueFraction("one of six alike", x, x.bears(5), 1, 6);
        for (int bad : new int[] {-1, 6, MIN, MAX}) {
            C.due("bears(" + bad + ")", x, x.bears(bad), false, 2);
        }
        C.due("the FRACTION stays", x.bottom(), 6);
        x = Check.landOf("deed d rate 2 hard 2 cost 0;payer p house 0;payer q house 0;");
        C.due("nobody is taxed", x, x.bears(0), false, 8);
        x.step(0, 0);
        C.dueFraction("he alone", x, x.bears(0), 1, 1);
        C.dueFraction("the other bears nothing", x, x.bears(1), 0, 1);
        x.rule(3, 1);
        C.due("nobody is taxed for the ALLOWANCE", x, x.bears(0), false, 8);
        AlmostTax y = new AlmostTax();
        C.due("nobody", y, y.bears(0), false, 2);
    }

    /** Without a common divisor, the bottom above 0; 0 is 0 by 1; told latest. */
    private static void fractionEdges() {
        AlmostTax x = Check.landOf("deed d rate 60 hard 9 cost 0;payer p house 0;payer q house 0;payer r house 0;near p d 4;near q d 8;");
        C.dueFraction("4 of 12", x, x.split(0, 0), 1, 3);
        C.dueFraction("8 of 12", x, x.split(1, 0), 2, 3);
        C.dueFraction("0 of 12", x, x.split(2, 0), 0, 1);
        C.dueFraction("26 of 79", x, x.bears(0), 26, 79);
        C.due("refused", x, x.bears(3), false, 2);
        C.due("refused", x, x.luck(0, 8), false, 5);
        C.due("refused", x, x.split(0, 1), false, 2);
        C.due("refused", x, x.mean(0, 1), false, 8);
        C.due("the top told latest", x.top(), 26);
        C.due("its bottom", x.bottom(), 79);
        Check.decades(x, "year 1;");
        C.dueFraction("3 times 79 of 3", x, x.mean(0, 3), 79, 1);
    }

    // ---- what was asked ahead

    private static String answers(AlmostTax x) {
        StringBuilder b = new StringBuilder();
        int[] none = {-1, 7, 8};
        int[] asked = {x.help(), x.rounds(1), x.rounds(2), x.crew(0), x.crew(9), x.many(7), x.many(8), x.many(9)};
        b.append(java.util.Arrays.toString(asked));
        for (int p = 0; p < 6; p++) {
            int[] of = {x.plan(p, 1), x.plan(p, 20), x.planSet(p, 3), x.owesIn(p), x.helped(p), x.bears(p) ? 1 : 0,
                x.payer(p, 5), x.payer(p, 3), x.payer(p, 4), x.game(p, 1, 3), x.moveOf(p, 0, 3)};
            b.append(java.util.Arrays.toString(of));
            if (x.luck(p, 1)) {
                b.append(x.top()).append('/').append(x.bottom());
            }
            for (int d = 0; d < 7; d++) {
                b.append(x.lure(p, d, 5)).append(' ').append(x.near(p, d)).append(' ');
            }
        }
        x.tray(0, 1, 2);
        x.write(0, 0, 1);
        x.write(0, 1, x.deed(0, 3));
        for (int n = 0; n < 2; n++) {
            int[] of = {x.fits(0, n), x.fitsAt(0, n, 1), x.sure(0, n), x.ask(0, n)};
            b.append(java.util.Arrays.toString(of));
        }
        for (int bad : none) {
            b.append(x.fitsAt(0, 0, bad)).append(' ');
        }
        return b.toString();
    }

    /** A LAND that is taken is there in place of that ahead, whatever was asked of that. */
    private static void aLandBehindAnother() {
        String[] lands = {"", "payer p house 3;payer q house 4;", "deed d rate 9 hard 3 cost 1;deed e rate 60 hard 2 cost 30;",
            "deed d rate 9 hard 3 cost 1;payer p house 3;payer q house 9;near p d 2;", wants("ab", "b", "c"), FULL_LAND};
        for (String land : lands) {
            for (String ahead : new String[] {FULL_LAND, wants("g", "fg", "efg", "a", "ab", "abc")}) {
                AlmostTax x = Check.landOf(ahead);
                String first = answers(x);
                C.due("asked again", answers(x).equals(first), true);
                x = Check.landOf(ahead);
                answers(x);
                Check.land(x, land);
                C.due("as on a new object: " + land, answers(x).equals(answers(Check.landOf(land))), true);
            }
        }
    }
}
