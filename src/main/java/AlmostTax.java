import java.util.Arrays;

/**
 * A country in which one is taxed on what one has nearly done. What each call answers stands in the
 * document's numbered promises; how to use the class stands in README.md.
 */
public final class AlmostTax {
    public static final int NONE = -1;

    // what status() tells
    private static final int FINE = 0;
    private static final int NO_TRAY = 1;
    private static final int NO_SUCH = 2;
    private static final int MISSING = 3;
    private static final int NO_PLACE = 4;
    private static final int BAD_NUMBER = 5;
    private static final int BELOW_ZERO = 6;
    private static final int TOO_MANY = 7;
    private static final int THERE_IS_NONE = 8;
    private static final int CANNOT_BE = 9;
    private static final int FAULTY = 10;
    private static final int UNLIKE = 11;

    // what fault() tells
    private static final int F_TOKEN = 1;
    private static final int F_ORDER = 2;
    private static final int F_NAME = 3;
    private static final int F_NUMBER = 4;
    private static final int F_TWICE = 5;
    private static final int F_MANY = 6;
    private static final int F_DEEP = 7;

    private static final int MOST_DEEDS = 7;
    private static final int MOST_PAYERS = 6;
    private static final int MOST_SETS = 128;
    private static final int MOST_TRAYS = 4;
    private static final int MOST_SORTS = 4;
    private static final int MOST_CELLS = 60;
    private static final int MOST_BYTES = 900;
    private static final int MOST_DECADE_BYTES = 300;
    private static final int MOST_MARKS = 3;
    private static final int LAST_YEAR = 9999;
    private static final int MOST_PURSE = 9999;
    private static final int MOST_TOLD_PURSE = 999;
    private static final int MOST_SEED = 9999;
    private static final int MOST_RATE = 60;
    private static final int MOST_HARD = 9;
    private static final int MOST_COST = 99;
    private static final int LAST_HOUSE = 99;
    private static final int MOST_WAGE = 50;
    private static final int MOST_ODDS = 16;
    private static final int MOST_ALLOWANCE = 40;
    private static final int USUAL_ODDS = 8;
    private static final int USUAL_PURSE = 50;
    private static final int USUAL_WAGE = 10;
    private static final int LONGEST_PLAN = 20;
    private static final int LONGEST_WAIT = 99;
    private static final int LONGEST_GAME = 4;
    private static final int MOST_RECEIPTS = 20;
    private static final int MOST_RECEIPT = 999;
    private static final int MOST_SEEDS = 20;
    private static final int MOST_STEPS_TOLD = 30;
    private static final int MOST_STEPS_DONE = 300;
    private static final int MOST_NESTED = 3;
    private static final int MOST_LOOPS = 99;
    private static final int MOST_YEARS_TOLD = 20;
    private static final int LONGEST_NAME = 8;
    private static final int MOST_DIGITS = 4;

    // 30 steps, an end for each, and one place more for what is refused
    private static final int MOST_LINES = 61;
    // between two steps stand at most three ends: 1,204 lines are never passed
    private static final int MOST_TICKS = 2000;

    private static final int T_END = 0;
    private static final int T_WORD = 1;
    private static final int T_NUMBER = 2;
    private static final int T_SIGN = 3;
    private static final int T_BAD = 4;

    /** Each word is closed by a blank; they stand in the order of the numbers below. */
    private static final String WORDS =
        "odds allow deed rate hard cost payer house purse wage near done step shrink year any when owes loop end stop ";
    private static final int W_ODDS = 0;
    private static final int W_ALLOW = 1;
    private static final int W_DEED = 2;
    private static final int W_RATE = 3;
    private static final int W_HARD = 4;
    private static final int W_COST = 5;
    private static final int W_PAYER = 6;
    private static final int W_HOUSE = 7;
    private static final int W_PURSE = 8;
    private static final int W_WAGE = 9;
    private static final int W_NEAR = 10;
    private static final int W_DONE = 11;
    private static final int W_STEP = 12;
    private static final int W_SHRINK = 13;
    private static final int W_YEAR = 14;
    private static final int W_ANY = 15;
    private static final int W_WHEN = 16;
    private static final int W_OWES = 17;
    private static final int W_LOOP = 18;
    private static final int W_END = 19;
    private static final int W_STOP = 20;
    private static final int MOST_WORDS = 21;

    // places of what lived() tells
    private static final int L_MISSED = 0;
    private static final int L_YEARS = 1;
    private static final int L_DONE = 2;
    private static final int L_PAID = 3;
    private static final int L_LEFT = 4;
    private static final int MOST_LIVED = 5;

    private final Tray[] trays = new Tray[MOST_TRAYS];
    private final byte[] tape = new byte[MOST_BYTES];
    private final Land here = new Land();
    // texts are read into it and lives are tried in it, so that what is here stays as it is
    private final Land spare = new Land();
    private final Land[] marked = new Land[MOST_MARKS];
    private final LandReader landReader = new LandReader();
    private final DecadesReader decadesReader = new DecadesReader();
    private final Life life = new Life();
    private final Planner planner = new Planner();
    private final Receipts receipts = new Receipts();
    private final Helper helper = new Helper();
    private final Fraction fraction = new Fraction();
    private final int[] livedFacts = new int[MOST_LIVED];
    private boolean hasLived;
    private int tapeLength;
    private int marks;
    private int lastStatus;
    private int faultKind = NONE;
    private int faultPlace = NONE;

    public AlmostTax() {
        for (int i = 0; i < MOST_TRAYS; i++) {
            trays[i] = new Tray();
        }
        for (int i = 0; i < MOST_MARKS; i++) {
            marked[i] = new Land();
        }
    }

    public int status() {
        return lastStatus;
    }

    public long top() {
        return fraction.above;
    }

    public long bottom() {
        return fraction.below;
    }

    // ---- TRAYS

    public boolean tray(int tray, int sort, int many) {
        if (!isTray(tray) || sort < 0 || sort >= MOST_SORTS) {
            return refuse(NO_TRAY);
        }
        if (many > MOST_CELLS) {
            return refuse(BAD_NUMBER);
        }
        if (many < 0) {
            return refuse(BELOW_ZERO);
        }
        trays[tray].lay(sort, many);
        return agree();
    }

    public boolean write(int tray, int place, long v) {
        int why = whyNoCell(tray, place);
        if (why != FINE) {
            return refuse(why);
        }
        trays[tray].put(place, v);
        return agree();
    }

    public long read(int tray, int place) {
        int why = whyNoCell(tray, place);
        if (why != FINE) {
            return no(why);
        }
        lastStatus = FINE;
        return trays[tray].cells[place];
    }

    public boolean pour(int tray, int i, int to, int j, int many) {
        int why = whyNoPour(tray, i, to, j, many);
        if (why != FINE) {
            return refuse(why);
        }
        System.arraycopy(trays[tray].cells, i, trays[to].cells, j, many);
        return agree();
    }

    // ---- texts

    public int feed(int a, int b, int c, int d, int e) {
        if (tapeLength + 20 > MOST_BYTES) {
            return NONE;
        }
        putOnTape(a);
        putOnTape(b);
        putOnTape(c);
        putOnTape(d);
        putOnTape(e);
        return tapeLength;
    }

    public int land(int n) {
        if (n < 0 || n > tapeLength) {
            return no(BAD_NUMBER);
        }
        landReader.tokens.begin(tape, n);
        boolean taken = landReader.readInto(spare);
        endReading(landReader.tokens, taken);
        if (!taken) {
            return no(FAULTY);
        }
        here.copyAll(spare);
        return yes(here.payers);
    }

    public int decades(int n) {
        if (n < 0 || n > tapeLength || n > MOST_DECADE_BYTES) {
            return no(BAD_NUMBER);
        }
        decadesReader.tokens.begin(tape, n);
        boolean taken = decadesReader.readInto(spare.script, here);
        endReading(decadesReader.tokens, taken);
        if (!taken) {
            return no(FAULTY);
        }
        here.script.copyFrom(spare.script);
        return yes(here.script.steps);
    }

    public int fault(int what) {
        if (what == 0) {
            return faultKind;
        }
        return what == 1 ? faultPlace : NONE;
    }

    public int many(int what) {
        switch (what) {
            case 0: return yes(here.deeds);
            case 1: return yes(here.payers);
            case 2: return yes(here.odds);
            case 3: return yes(here.allowance);
            case 4: return yes(here.year);
            case 5: return yes(here.sumOf(here.paid));
            case 6: return yes(here.sumOf(here.owed));
            case 7: return yes(here.taxOfAll());
            case 8: return yes(here.contentSet());
            case 9: return yes(here.sumOf(here.purse));
            default: return no(BAD_NUMBER);
        }
    }

    public int deed(int deed, int what) {
        if (!isDeed(deed)) {
            return no(NO_SUCH);
        }
        switch (what) {
            case 0: return yes(here.rate[deed]);
            case 1: return yes(here.hard[deed]);
            case 2: return yes(here.cost[deed]);
            case 3: return yes(here.fullOf(deed));
            case 4: return yes(here.doersOf(deed));
            case 5: return yes(here.nearOfAll(deed));
            default: return no(BAD_NUMBER);
        }
    }

    public int payer(int payer, int what) {
        if (!isPayer(payer)) {
            return no(NO_SUCH);
        }
        switch (what) {
            case 0: return yes(here.house[payer]);
            case 1: return yes(here.purse[payer]);
            case 2: return yes(here.wage[payer]);
            case 3: return yes(here.paid[payer]);
            case 4: return yes(here.owed[payer]);
            case 5: return yes(here.taxOf(payer));
            case 6: return yes(here.doneSet(payer));
            case 7: return yes(here.nearSet(payer));
            default: return no(BAD_NUMBER);
        }
    }

    public int near(int payer, int deed) {
        if (!isPayer(payer) || !isDeed(deed)) {
            return no(NO_SUCH);
        }
        return yes(here.nearOf(payer, deed));
    }

    public int part(int payer, int deed) {
        if (!isPayer(payer) || !isDeed(deed)) {
            return no(NO_SUCH);
        }
        return yes(here.partOf(payer, deed));
    }

    public int copyTax(int tray) {
        int why = whyNoTray(tray);
        if (why != FINE) {
            return no(why);
        }
        Tray to = trays[tray];
        if (to.length < here.payers) {
            return no(NO_PLACE);
        }
        for (int p = 0; p < here.payers; p++) {
            to.put(p, here.taxOf(p));
        }
        return yes(here.payers);
    }

    // ---- what is done

    public int step(int payer, int deed) {
        if (!isPayer(payer) || !isDeed(deed)) {
            return no(NO_SUCH);
        }
        if (!here.canStep(payer, deed)) {
            return no(CANNOT_BE);
        }
        here.takeStep(payer, deed);
        return yes(here.nearOf(payer, deed));
    }

    public int shrink(int payer, int deed) {
        if (!isPayer(payer) || !isDeed(deed)) {
            return no(NO_SUCH);
        }
        if (!here.isNear(payer, deed)) {
            return no(CANNOT_BE);
        }
        here.takeBack(payer, deed);
        return yes(here.nearOf(payer, deed));
    }

    public int year(int years) {
        if (years < 1 || years > LONGEST_WAIT) {
            return no(BAD_NUMBER);
        }
        if (here.year + years > LAST_YEAR) {
            return no(TOO_MANY);
        }
        return yes(here.passYears(years));
    }

    public boolean price(int deed, int what, int much) {
        if (!isDeed(deed)) {
            return refuse(NO_SUCH);
        }
        if (what == 0 && isWithin(much, 0, MOST_RATE)) {
            here.rate[deed] = much;
            return agree();
        }
        if (what == 2 && isWithin(much, 0, MOST_COST)) {
            here.cost[deed] = much;
            return agree();
        }
        return refuse(BAD_NUMBER);
    }

    public boolean hire(int payer, int wage) {
        if (!isPayer(payer)) {
            return refuse(NO_SUCH);
        }
        if (!isWithin(wage, 0, MOST_WAGE)) {
            return refuse(BAD_NUMBER);
        }
        here.wage[payer] = wage;
        return agree();
    }

    public int forgive(int payer) {
        if (!isPayer(payer)) {
            return no(NO_SUCH);
        }
        int debt = here.owed[payer];
        if (debt == 0) {
            return no(THERE_IS_NONE);
        }
        here.owed[payer] = 0;
        return yes(debt);
    }

    public int come(int house) {
        if (!isWithin(house, 0, LAST_HOUSE)) {
            return no(BAD_NUMBER);
        }
        if (here.payers >= MOST_PAYERS) {
            return no(TOO_MANY);
        }
        return yes(here.addPayer(0, house));
    }

    public int dream(int rate, int hard, int cost) {
        if (!isWithin(rate, 0, MOST_RATE) || !isWithin(hard, 1, MOST_HARD) || !isWithin(cost, 0, MOST_COST)) {
            return no(BAD_NUMBER);
        }
        if (here.deeds >= MOST_DEEDS) {
            return no(TOO_MANY);
        }
        return yes(here.addDeed(0, rate, hard, cost));
    }

    public boolean rule(int what, int much) {
        if (what == 2 && isWithin(much, 0, MOST_ODDS)) {
            here.odds = much;
            return agree();
        }
        if (what == 3 && isWithin(much, 0, MOST_ALLOWANCE)) {
            here.allowance = much;
            return agree();
        }
        return refuse(BAD_NUMBER);
    }

    // ---- plans

    public int plan(int payer, int years) {
        int why = whyNoPlan(payer, years);
        if (why != FINE) {
            return no(why);
        }
        planner.look(here, payer);
        planner.choose(years);
        return yes(planner.bestTotal);
    }

    public int planSet(int payer, int years) {
        int why = whyNoPlan(payer, years);
        if (why != FINE) {
            return no(why);
        }
        planner.look(here, payer);
        planner.choose(years);
        return yes(planner.bestSet);
    }

    public int lure(int payer, int deed, int years) {
        if (!isDeed(deed)) {
            return no(NO_SUCH);
        }
        int why = whyNoPlan(payer, years);
        if (why != FINE) {
            return no(why);
        }
        if (here.isDone(payer, deed)) {
            return no(CANNOT_BE);
        }
        planner.look(here, payer);
        for (int rate = 0; rate <= MOST_RATE; rate++) {
            planner.parts[deed] = here.partAt(rate, payer, deed);
            planner.choose(years);
            if (has(planner.bestSet, deed)) {
                return yes(rate);
            }
        }
        return no(THERE_IS_NONE);
    }

    public int owesIn(int payer) {
        if (!isPayer(payer)) {
            return no(NO_SUCH);
        }
        if (here.owed[payer] > 0) {
            return yes(0);
        }
        int tax = here.taxOf(payer);
        int purse = here.purse[payer];
        for (int years = 1; years <= LONGEST_WAIT; years++) {
            purse = Math.min(MOST_PURSE, purse + here.wage[payer]) - tax;
            if (purse < 0) {
                return yes(years);
            }
        }
        return no(THERE_IS_NONE);
    }

    // ---- receipts

    public int fits(int tray, int n) {
        int why = whyNoReceipts(tray, n);
        if (why != FINE) {
            return no(why);
        }
        receipts.sift(here, trays[tray], n);
        return yes(receipts.count);
    }

    public int fitsAt(int tray, int n, int k) {
        int why = whyNoReceipts(tray, n);
        if (why != FINE) {
            return no(why);
        }
        receipts.sift(here, trays[tray], n);
        if (k < 0 || k >= receipts.count) {
            return no(THERE_IS_NONE);
        }
        return yes(receipts.fitting[k]);
    }

    public int sure(int tray, int n) {
        int why = whyNoReceipts(tray, n);
        if (why != FINE) {
            return no(why);
        }
        receipts.sift(here, trays[tray], n);
        if (receipts.count == 0) {
            return no(THERE_IS_NONE);
        }
        return yes(receipts.commonSet());
    }

    public int ask(int tray, int n) {
        int why = whyNoReceipts(tray, n);
        if (why != FINE) {
            return no(why);
        }
        receipts.sift(here, trays[tray], n);
        if (receipts.count < 2) {
            return no(THERE_IS_NONE);
        }
        return yes(receipts.bestQuestion(here.setsOfDeeds()));
    }

    // ---- rounds, splits, help

    public int rounds(int inspectors) {
        if (!isWithin(inspectors, 1, MOST_PAYERS)) {
            return no(BAD_NUMBER);
        }
        int taxed = here.sortTaxedHouses();
        int length = 0;
        while (length < LAST_HOUSE && here.partsOfRoad(taxed, length) > inspectors) {
            length++;
        }
        return yes(length);
    }

    public int crew(int length) {
        if (!isWithin(length, 0, LAST_HOUSE)) {
            return no(BAD_NUMBER);
        }
        return yes(here.partsOfRoad(here.sortTaxedHouses(), length));
    }

    public boolean split(int payer, int deed) {
        if (!isPayer(payer) || !isDeed(deed)) {
            return refuse(NO_SUCH);
        }
        if (here.isDone(payer, deed)) {
            return refuse(CANNOT_BE);
        }
        int all = here.nearOfAll(deed);
        if (all == 0) {
            return refuse(THERE_IS_NONE);
        }
        fraction.tell(here.nearOf(payer, deed), all);
        return agree();
    }

    public int help() {
        helper.look(here);
        return yes(helper.mostOfAll());
    }

    public int helped(int payer) {
        if (!isPayer(payer)) {
            return no(NO_SUCH);
        }
        helper.look(here);
        int deed = helper.deedFor(payer);
        return deed == NONE ? no(THERE_IS_NONE) : yes(deed);
    }

    // ---- games, odds

    public int game(int payer, int other, int turns) {
        int why = whyNoGame(payer, other, turns, 0);
        if (why != FINE) {
            return no(why);
        }
        // a step changes nobody's tax but one's own, so each plays best by making his own the least
        spare.copyLand(here);
        int first = leastTax(spare, payer, (turns + 1) / 2);
        int second = leastTax(spare, other, turns / 2);
        return yes(second - first);
    }

    public int moveOf(int payer, int other, int turns) {
        int why = whyNoGame(payer, other, turns, 1);
        if (why != FINE) {
            return no(why);
        }
        spare.copyLand(here);
        int own = (turns + 1) / 2;
        int least = leastTax(spare, payer, own);
        for (int d = 0; d < spare.deeds; d++) {
            if (spare.canStep(payer, d) && leastTaxBehind(spare, payer, d, own - 1) == least) {
                return yes(d);
            }
        }
        return no(THERE_IS_NONE);
    }

    public boolean luck(int payer, int k) {
        if (!isPayer(payer)) {
            return refuse(NO_SUCH);
        }
        if (!isWithin(k, 0, MOST_DEEDS)) {
            return refuse(BAD_NUMBER);
        }
        int deeds = Integer.bitCount(here.nearSet(payer));
        long ways = 0;
        for (int done = k; done <= deeds; done++) {
            ways += waysOf(deeds, done, here.odds);
        }
        fraction.tell(ways, power(MOST_ODDS, deeds));
        return agree();
    }

    public boolean bears(int payer) {
        if (!isPayer(payer)) {
            return refuse(NO_SUCH);
        }
        int all = here.taxOfAll();
        if (all == 0) {
            return refuse(THERE_IS_NONE);
        }
        fraction.tell(here.taxOf(payer), all);
        return agree();
    }

    // ---- DECADES

    public int live(int seed) {
        if (!isWithin(seed, 0, MOST_SEED)) {
            return no(BAD_NUMBER);
        }
        if (!here.script.isThere) {
            return no(THERE_IS_NONE);
        }
        life.run(here.script, here, seed);
        System.arraycopy(life.facts, 0, livedFacts, 0, MOST_LIVED);
        hasLived = true;
        return yes(life.steps);
    }

    public int lived(int what) {
        if (what < 0 || what >= MOST_LIVED) {
            return no(BAD_NUMBER);
        }
        return hasLived ? yes(livedFacts[what]) : no(THERE_IS_NONE);
    }

    public boolean mean(int seed, int many) {
        if (!isWithin(seed, 0, MOST_SEED) || !isWithin(many, 1, MOST_SEEDS) || seed + many - 1 > MOST_SEED) {
            return refuse(BAD_NUMBER);
        }
        if (!here.script.isThere) {
            return refuse(THERE_IS_NONE);
        }
        long all = 0;
        for (int i = 0; i < many; i++) {
            spare.copyLand(here);
            life.run(here.script, spare, seed + i);
            all += spare.sumOf(spare.paid);
        }
        fraction.tell(all, many);
        return agree();
    }

    // ---- MARKS

    public int mark() {
        if (marks >= MOST_MARKS) {
            return no(TOO_MANY);
        }
        marked[marks].copyAll(here);
        marks++;
        return yes(marks);
    }

    public int back() {
        if (marks <= 0) {
            return no(THERE_IS_NONE);
        }
        marks--;
        here.copyAll(marked[marks]);
        return yes(marks);
    }

    // ---- what the calls share

    private int no(int why) {
        lastStatus = why;
        return NONE;
    }

    private int yes(int answer) {
        lastStatus = FINE;
        return answer;
    }

    private boolean refuse(int why) {
        lastStatus = why;
        return false;
    }

    private boolean agree() {
        lastStatus = FINE;
        return true;
    }

    private static boolean isWithin(int number, int least, int most) {
        return number >= least && number <= most;
    }

    private static boolean has(int set, int member) {
        return (set >> member & 1) == 1;
    }

    /** Of each set of the first so many, all of its members together. */
    private static void addUp(int[] sums, int[] each, int count) {
        sums[0] = 0;
        for (int i = 0; i < count; i++) {
            int half = 1 << i;
            for (int set = 0; set < half; set++) {
                sums[half + set] = sums[set] + each[i];
            }
        }
    }

    private static boolean isTray(int tray) {
        return tray >= 0 && tray < MOST_TRAYS;
    }

    private boolean isDeed(int deed) {
        return deed >= 0 && deed < here.deeds;
    }

    private boolean isPayer(int payer) {
        return payer >= 0 && payer < here.payers;
    }

    private int whyNoTray(int tray) {
        if (!isTray(tray)) {
            return NO_TRAY;
        }
        return trays[tray].isMissing ? MISSING : FINE;
    }

    private int whyNoCell(int tray, int place) {
        int why = whyNoTray(tray);
        if (why != FINE) {
            return why;
        }
        return place >= 0 && place < trays[tray].length ? FINE : NO_PLACE;
    }

    private int whyNoPour(int tray, int i, int to, int j, int many) {
        if (!isTray(tray) || !isTray(to)) {
            return NO_TRAY;
        }
        if (trays[tray].isMissing || trays[to].isMissing) {
            return MISSING;
        }
        if (trays[tray].sort != trays[to].sort) {
            return UNLIKE;
        }
        if (many < 0) {
            return BELOW_ZERO;
        }
        return trays[tray].hasRun(i, many) && trays[to].hasRun(j, many) ? FINE : NO_PLACE;
    }

    private int whyNoPlan(int payer, int years) {
        if (!isPayer(payer)) {
            return NO_SUCH;
        }
        return isWithin(years, 1, LONGEST_PLAN) ? FINE : BAD_NUMBER;
    }

    private int whyNoReceipts(int tray, int n) {
        int why = whyNoTray(tray);
        if (why != FINE) {
            return why;
        }
        Tray told = trays[tray];
        if (2L * n > told.length) {
            return NO_PLACE;
        }
        if (!isWithin(n, 0, MOST_RECEIPTS)) {
            return BAD_NUMBER;
        }
        for (int i = 0; i < n; i++) {
            long set = told.cells[2 * i];
            long number = told.cells[2 * i + 1];
            if (set < 0 || set >= here.setsOfDeeds() || number < 0 || number > MOST_RECEIPT) {
                return BAD_NUMBER;
            }
        }
        return FINE;
    }

    private int whyNoGame(int payer, int other, int turns, int fewest) {
        if (!isPayer(payer) || !isPayer(other)) {
            return NO_SUCH;
        }
        return payer == other || !isWithin(turns, fewest, LONGEST_GAME) ? BAD_NUMBER : FINE;
    }

    private void putOnTape(int four) {
        for (int shift = 24; shift >= 0; shift -= 8) {
            if (tapeLength < MOST_BYTES) {
                tape[tapeLength] = (byte) (four >> shift);
                tapeLength++;
            }
        }
    }

    private void endReading(Tokens tokens, boolean taken) {
        faultKind = taken ? 0 : tokens.faultKind;
        faultPlace = taken ? NONE : tokens.faultPlace;
        tapeLength = 0;
    }

    private static long power(long base, int times) {
        long all = 1;
        for (int i = 0; i < times; i++) {
            all *= base;
        }
        return all;
    }

    /** How many of 16 to the power of all ways leave just so many of all done. */
    private static long waysOf(int all, int done, int odds) {
        long chosen = 1;
        for (int i = 1; i <= done; i++) {
            chosen = chosen * (all - done + i) / i;
        }
        return chosen * power(odds, done) * power(MOST_ODDS - odds, all - done);
    }

    /** The least tax that a payer can have by so many steps or fewer; the land is as before then. */
    private static int leastTax(Land land, int payer, int steps) {
        int least = land.taxOf(payer);
        if (steps <= 0) {
            return least;
        }
        for (int d = 0; d < land.deeds; d++) {
            if (land.canStep(payer, d)) {
                least = Math.min(least, leastTaxBehind(land, payer, d, steps - 1));
            }
        }
        return least;
    }

    private static int leastTaxBehind(Land land, int payer, int deed, int steps) {
        int purse = land.purse[payer];
        land.takeStep(payer, deed);
        int least = leastTax(land, payer, steps);
        land.takeBack(payer, deed);
        land.purse[payer] = purse;
        return least;
    }

    /** The fraction told latest. */
    private static final class Fraction {
        long above;
        long below = 1;

        void tell(long newAbove, long newBelow) {
            long divisor = commonDivisor(newAbove, newBelow);
            if (divisor > 0) {
                above = newAbove / divisor;
                below = newBelow / divisor;
            }
        }

        private static long commonDivisor(long a, long b) {
            long big = a;
            long small = b;
            // two longs need no more than some ninety turns
            for (int turn = 0; turn < 100 && small > 0; turn++) {
                long rest = big % small;
                big = small;
                small = rest;
            }
            return big;
        }
    }

    /** A row of numbers, cut to the width of its sort. */
    private static final class Tray {
        final long[] cells = new long[MOST_CELLS];
        boolean isMissing = true;
        int sort;
        int length;

        void lay(int newSort, int many) {
            isMissing = false;
            sort = newSort;
            length = many;
            Arrays.fill(cells, 0L);
        }

        void put(int place, long v) {
            switch (sort) {
                case 0:
                    cells[place] = (byte) v;
                    break;
                case 1:
                    cells[place] = (short) v;
                    break;
                case 2:
                    cells[place] = (int) v;
                    break;
                default:
                    cells[place] = v;
                    break;
            }
        }

        boolean hasRun(int from, int many) {
            return from >= 0 && many <= length && from <= length - many;
        }
    }

    /** Deeds, payers, and all that became of them. A deed is done by whom it is near by as much as it is hard. */
    private static final class Land {
        final int[] rate = new int[MOST_DEEDS];
        final int[] hard = new int[MOST_DEEDS];
        final int[] cost = new int[MOST_DEEDS];
        // 0 names what came without a name
        final long[] deedName = new long[MOST_DEEDS];
        final int[] house = new int[MOST_PAYERS];
        final int[] purse = new int[MOST_PAYERS];
        final int[] wage = new int[MOST_PAYERS];
        final int[] paid = new int[MOST_PAYERS];
        final int[] owed = new int[MOST_PAYERS];
        final long[] payerName = new long[MOST_PAYERS];
        final int[][] steps = new int[MOST_PAYERS][MOST_DEEDS];
        final int[] road = new int[MOST_PAYERS];
        final Script script = new Script();
        int odds = USUAL_ODDS;
        int allowance;
        int year;
        int deeds;
        int payers;

        void clear() {
            odds = USUAL_ODDS;
            allowance = 0;
            year = 0;
            deeds = 0;
            payers = 0;
            script.clear();
        }

        void copyAll(Land from) {
            copyLand(from);
            script.copyFrom(from.script);
        }

        void copyLand(Land from) {
            odds = from.odds;
            allowance = from.allowance;
            year = from.year;
            deeds = from.deeds;
            payers = from.payers;
            System.arraycopy(from.rate, 0, rate, 0, MOST_DEEDS);
            System.arraycopy(from.hard, 0, hard, 0, MOST_DEEDS);
            System.arraycopy(from.cost, 0, cost, 0, MOST_DEEDS);
            System.arraycopy(from.deedName, 0, deedName, 0, MOST_DEEDS);
            System.arraycopy(from.house, 0, house, 0, MOST_PAYERS);
            System.arraycopy(from.purse, 0, purse, 0, MOST_PAYERS);
            System.arraycopy(from.wage, 0, wage, 0, MOST_PAYERS);
            System.arraycopy(from.paid, 0, paid, 0, MOST_PAYERS);
            System.arraycopy(from.owed, 0, owed, 0, MOST_PAYERS);
            System.arraycopy(from.payerName, 0, payerName, 0, MOST_PAYERS);
            for (int p = 0; p < MOST_PAYERS; p++) {
                System.arraycopy(from.steps[p], 0, steps[p], 0, MOST_DEEDS);
            }
        }

        int addDeed(long name, int newRate, int newHard, int newCost) {
            if (deeds >= MOST_DEEDS) {
                return NONE;
            }
            deedName[deeds] = name;
            rate[deeds] = newRate;
            hard[deeds] = newHard;
            cost[deeds] = newCost;
            deeds++;
            return deeds - 1;
        }

        int addPayer(long name, int newHouse) {
            if (payers >= MOST_PAYERS) {
                return NONE;
            }
            payerName[payers] = name;
            house[payers] = newHouse;
            purse[payers] = USUAL_PURSE;
            wage[payers] = USUAL_WAGE;
            paid[payers] = 0;
            owed[payers] = 0;
            // of the deeds that are yet to come, too
            Arrays.fill(steps[payers], 0);
            payers++;
            return payers - 1;
        }

        int findDeed(long name) {
            for (int d = 0; d < deeds; d++) {
                if (deedName[d] == name) {
                    return d;
                }
            }
            return NONE;
        }

        int findPayer(long name) {
            for (int p = 0; p < payers; p++) {
                if (payerName[p] == name) {
                    return p;
                }
            }
            return NONE;
        }

        int setsOfDeeds() {
            return 1 << deeds;
        }

        int nearOf(int who, int what) {
            return steps[who][what];
        }

        boolean isDone(int who, int what) {
            return steps[who][what] >= hard[what];
        }

        /** Near by a step or more, and not done. */
        boolean isNear(int who, int what) {
            return steps[who][what] > 0 && !isDone(who, what);
        }

        /** PART if the rate were that; what is nearer by less than it is hard leaves a divisor above 0. */
        int partAt(int anyRate, int who, int what) {
            int taken = steps[who][what];
            int all = hard[what];
            return taken >= 0 && taken < all ? anyRate * taken / all : 0;
        }

        int partOf(int who, int what) {
            return partAt(rate[what], who, what);
        }

        int fullOf(int what) {
            return hard[what] > 0 ? rate[what] * (hard[what] - 1) / hard[what] : 0;
        }

        int taxOf(int who) {
            int all = 0;
            for (int d = 0; d < deeds; d++) {
                all += partAt(rate[d], who, d);
            }
            return Math.max(0, all - allowance);
        }

        int taxOfAll() {
            int all = 0;
            for (int p = 0; p < payers; p++) {
                all += taxOf(p);
            }
            return all;
        }

        int sumOf(int[] byPayers) {
            int all = 0;
            for (int p = 0; p < payers; p++) {
                all += byPayers[p];
            }
            return all;
        }

        int nearOfAll(int what) {
            int all = 0;
            for (int p = 0; p < payers; p++) {
                if (!isDone(p, what)) {
                    all += steps[p][what];
                }
            }
            return all;
        }

        int doersOf(int what) {
            int set = 0;
            for (int p = 0; p < payers; p++) {
                if (isDone(p, what)) {
                    set |= 1 << p;
                }
            }
            return set;
        }

        int doneSet(int who) {
            int set = 0;
            for (int d = 0; d < deeds; d++) {
                if (isDone(who, d)) {
                    set |= 1 << d;
                }
            }
            return set;
        }

        int nearSet(int who) {
            int set = 0;
            for (int d = 0; d < deeds; d++) {
                if (isNear(who, d)) {
                    set |= 1 << d;
                }
            }
            return set;
        }

        int contentSet() {
            int set = 0;
            for (int p = 0; p < payers; p++) {
                if (nearSet(p) == 0) {
                    set |= 1 << p;
                }
            }
            return set;
        }

        boolean canStep(int who, int what) {
            if (isDone(who, what)) {
                return false;
            }
            return steps[who][what] + 1 < hard[what] || purse[who] >= cost[what];
        }

        void takeStep(int who, int what) {
            steps[who][what]++;
            if (isDone(who, what)) {
                purse[who] -= cost[what];
            }
        }

        void takeBack(int who, int what) {
            steps[who][what]--;
        }

        /** So many years go by: what was paid in them. */
        int passYears(int years) {
            int all = 0;
            for (int p = 0; p < payers; p++) {
                all += passYearsOf(p, years);
            }
            year += years;
            return all;
        }

        private int passYearsOf(int who, int years) {
            // nobody steps or shrinks meanwhile, so the tax is the same in all of them
            int tax = taxOf(who);
            int money = purse[who];
            int pays = 0;
            for (int i = 0; i < years; i++) {
                money = Math.min(MOST_PURSE, money + wage[who]);
                int now = Math.min(money, tax);
                money -= now;
                pays += now;
            }
            purse[who] = money;
            paid[who] += pays;
            owed[who] += tax * years - pays;
            return pays;
        }

        /** The fewest parts, none longer, of a road with so many houses in order. */
        int partsOfRoad(int taxed, int length) {
            int parts = 0;
            int first = 0;
            for (int i = 0; i < taxed; i++) {
                if (parts == 0 || road[i] - first > length) {
                    parts++;
                    first = road[i];
                }
            }
            return parts;
        }

        /** The houses of all who are taxed come to the road in order: how many. */
        int sortTaxedHouses() {
            int count = 0;
            for (int p = 0; p < payers; p++) {
                if (taxOf(p) > 0) {
                    int place = count;
                    for (; place > 0 && road[place - 1] > house[p]; place--) {
                        road[place] = road[place - 1];
                    }
                    road[place] = house[p];
                    count++;
                }
            }
            return count;
        }
    }

    /** Decades as lines: a line is a step or an end. */
    private static final class Script {
        final int[] kind = new int[MOST_LINES];
        final int[] test = new int[MOST_LINES];
        final int[] who = new int[MOST_LINES];
        final int[] what = new int[MOST_LINES];
        final int[] sign = new int[MOST_LINES];
        final int[] number = new int[MOST_LINES];
        // of a when or loop the line of its end, of an end the line of its beginning
        final int[] mate = new int[MOST_LINES];
        boolean isThere;
        int lines;
        int steps;

        void clear() {
            isThere = false;
            lines = 0;
            steps = 0;
        }

        void copyFrom(Script from) {
            isThere = from.isThere;
            lines = from.lines;
            steps = from.steps;
            System.arraycopy(from.kind, 0, kind, 0, lines);
            System.arraycopy(from.test, 0, test, 0, lines);
            System.arraycopy(from.who, 0, who, 0, lines);
            System.arraycopy(from.what, 0, what, 0, lines);
            System.arraycopy(from.sign, 0, sign, 0, lines);
            System.arraycopy(from.number, 0, number, 0, lines);
            System.arraycopy(from.mate, 0, mate, 0, lines);
        }
    }

    /** The tokens of a text, one by one, and the first fault among them. */
    private static final class Tokens {
        private final long[] wordCodes = new long[MOST_WORDS];
        private byte[] text = new byte[0];
        private int end;
        private int at;
        private int kind;
        private int start;
        // of the token that is next: which of WORDS, or NONE
        int word;
        // of a word of 1 to 8 letters its letters as one number, else 0
        private long code;
        private int value;
        // what was taken latest of each kind
        int takenPayer;
        int takenDeed;
        int takenSign;
        int takenNumber;
        int faultKind;
        int faultPlace;

        Tokens() {
            int words = 0;
            long letters = 0;
            for (int i = 0; i < WORDS.length() && words < MOST_WORDS; i++) {
                if (WORDS.charAt(i) == ' ') {
                    wordCodes[words] = letters;
                    words++;
                    letters = 0;
                } else {
                    letters = withLetter(letters, WORDS.charAt(i));
                }
            }
        }

        void begin(byte[] bytes, int length) {
            text = bytes;
            end = Math.min(length, bytes.length);
            at = 0;
            takenPayer = 0;
            takenDeed = 0;
            takenSign = 0;
            takenNumber = 0;
            faultKind = 0;
            faultPlace = NONE;
            advance();
        }

        void advance() {
            while (at < end && (text[at] == 10 || text[at] == 32)) {
                at++;
            }
            start = at;
            word = NONE;
            code = 0;
            if (at >= end) {
                kind = T_END;
            } else if (isLetter(text[at])) {
                scanWord();
            } else if (isDigit(text[at])) {
                scanNumber();
            } else if (isSign(text[at])) {
                kind = T_SIGN;
                value = text[at];
                at++;
            } else {
                kind = T_BAD;
            }
        }

        private void scanWord() {
            long letters = 0;
            for (; at < end && isLetter(text[at]); at++) {
                if (at - start < LONGEST_NAME) {
                    letters = withLetter(letters, text[at]);
                }
            }
            kind = T_WORD;
            if (at - start <= LONGEST_NAME) {
                code = letters;
                word = findWord(letters);
            }
        }

        private void scanNumber() {
            value = 0;
            for (; at < end && isDigit(text[at]); at++) {
                if (at - start < MOST_DIGITS) {
                    value = value * 10 + text[at] - '0';
                }
            }
            kind = at - start > MOST_DIGITS ? T_BAD : T_NUMBER;
        }

        private int findWord(long letters) {
            for (int w = 0; w < MOST_WORDS; w++) {
                if (wordCodes[w] == letters) {
                    return w;
                }
            }
            return NONE;
        }

        private static long withLetter(long letters, int letter) {
            return letters * 27 + letter - 'a' + 1;
        }

        private static boolean isLetter(int sign) {
            return sign >= 'a' && sign <= 'z';
        }

        private static boolean isDigit(int sign) {
            return sign >= '0' && sign <= '9';
        }

        private static boolean isSign(int sign) {
            return sign == ';' || sign == '<' || sign == '>' || sign == '=';
        }

        boolean isAtEnd() {
            return kind == T_END;
        }

        /** What is no token is that first of all, whatever should stand there. */
        boolean fail(int why) {
            faultKind = kind == T_BAD ? F_TOKEN : why;
            faultPlace = start;
            return false;
        }

        boolean takeWord(int wanted) {
            if (word != wanted) {
                return fail(F_ORDER);
            }
            advance();
            return true;
        }

        boolean takeClose() {
            if (kind != T_SIGN || value != ';') {
                return fail(F_ORDER);
            }
            advance();
            return true;
        }

        boolean takeCompare() {
            if (kind != T_SIGN || value == ';') {
                return fail(F_ORDER);
            }
            takenSign = value;
            advance();
            return true;
        }

        boolean takeNumber(int least, int most) {
            if (kind != T_NUMBER) {
                return fail(F_ORDER);
            }
            if (!isWithin(value, least, most)) {
                return fail(F_NUMBER);
            }
            takenNumber = value;
            advance();
            return true;
        }

        /** The name that is next, or 0 if none can be read there. */
        long nextName() {
            return word == NONE ? code : 0;
        }

        boolean takeNewName(Land land) {
            long name = nextName();
            if (name == 0) {
                return fail(F_ORDER);
            }
            if (land.findDeed(name) != NONE || land.findPayer(name) != NONE) {
                return fail(F_NAME);
            }
            advance();
            return true;
        }

        boolean takePayer(Land land) {
            long name = nextName();
            if (name == 0) {
                return fail(F_ORDER);
            }
            int found = land.findPayer(name);
            if (found == NONE) {
                return fail(F_NAME);
            }
            takenPayer = found;
            advance();
            return true;
        }

        boolean takeDeed(Land land) {
            long name = nextName();
            if (name == 0) {
                return fail(F_ORDER);
            }
            int found = land.findDeed(name);
            if (found == NONE) {
                return fail(F_NAME);
            }
            takenDeed = found;
            advance();
            return true;
        }

        /** Not a deed that the payer taken latest has done. */
        boolean isUndoneNext(Land land) {
            int found = land.findDeed(nextName());
            return found == NONE || !land.isDone(takenPayer, found) || fail(F_TWICE);
        }
    }

    /** Reads a land. */
    private static final class LandReader {
        final Tokens tokens = new Tokens();
        private boolean oddsTold;
        private boolean allowTold;

        boolean readInto(Land land) {
            land.clear();
            oddsTold = false;
            allowTold = false;
            boolean taken = true;
            // a part has a byte at least
            for (int parts = 0; parts < MOST_BYTES && taken && !tokens.isAtEnd(); parts++) {
                switch (tokens.word) {
                    case W_ODDS:
                        taken = readOdds(land);
                        break;
                    case W_ALLOW:
                        taken = readAllowance(land);
                        break;
                    case W_DEED:
                        taken = readDeed(land);
                        break;
                    case W_PAYER:
                        taken = readPayer(land);
                        break;
                    case W_NEAR:
                        taken = readNear(land);
                        break;
                    case W_DONE:
                        taken = readDone(land);
                        break;
                    default:
                        taken = tokens.fail(F_ORDER);
                        break;
                }
            }
            return taken;
        }

        private boolean readOdds(Land land) {
            if (oddsTold) {
                return tokens.fail(F_TWICE);
            }
            oddsTold = true;
            tokens.advance();
            if (!tokens.takeNumber(0, MOST_ODDS)) {
                return false;
            }
            land.odds = tokens.takenNumber;
            return tokens.takeClose();
        }

        private boolean readAllowance(Land land) {
            if (allowTold) {
                return tokens.fail(F_TWICE);
            }
            allowTold = true;
            tokens.advance();
            if (!tokens.takeNumber(0, MOST_ALLOWANCE)) {
                return false;
            }
            land.allowance = tokens.takenNumber;
            return tokens.takeClose();
        }

        private boolean readDeed(Land land) {
            if (land.deeds >= MOST_DEEDS) {
                return tokens.fail(F_MANY);
            }
            tokens.advance();
            long name = tokens.nextName();
            if (!tokens.takeNewName(land) || !tokens.takeWord(W_RATE) || !tokens.takeNumber(0, MOST_RATE)) {
                return false;
            }
            int rate = tokens.takenNumber;
            if (!tokens.takeWord(W_HARD) || !tokens.takeNumber(1, MOST_HARD)) {
                return false;
            }
            int hard = tokens.takenNumber;
            if (!tokens.takeWord(W_COST) || !tokens.takeNumber(0, MOST_COST)) {
                return false;
            }
            land.addDeed(name, rate, hard, tokens.takenNumber);
            return tokens.takeClose();
        }

        private boolean readPayer(Land land) {
            if (land.payers >= MOST_PAYERS) {
                return tokens.fail(F_MANY);
            }
            tokens.advance();
            long name = tokens.nextName();
            if (!tokens.takeNewName(land) || !tokens.takeWord(W_HOUSE) || !tokens.takeNumber(0, LAST_HOUSE)) {
                return false;
            }
            int payer = land.payers;
            land.addPayer(name, tokens.takenNumber);
            if (tokens.word == W_PURSE) {
                tokens.advance();
                if (!tokens.takeNumber(0, MOST_TOLD_PURSE)) {
                    return false;
                }
                land.purse[payer] = tokens.takenNumber;
            }
            if (tokens.word == W_WAGE) {
                tokens.advance();
                if (!tokens.takeNumber(0, MOST_WAGE)) {
                    return false;
                }
                land.wage[payer] = tokens.takenNumber;
            }
            return tokens.takeClose();
        }

        private boolean readNear(Land land) {
            tokens.advance();
            if (!takeUndone(land) || !tokens.takeNumber(0, land.hard[tokens.takenDeed] - 1)) {
                return false;
            }
            land.steps[tokens.takenPayer][tokens.takenDeed] = tokens.takenNumber;
            return tokens.takeClose();
        }

        private boolean readDone(Land land) {
            tokens.advance();
            if (!takeUndone(land)) {
                return false;
            }
            land.steps[tokens.takenPayer][tokens.takenDeed] = land.hard[tokens.takenDeed];
            return tokens.takeClose();
        }

        private boolean takeUndone(Land land) {
            return tokens.takePayer(land) && tokens.isUndoneNext(land) && tokens.takeDeed(land);
        }
    }

    /** Reads decades; what they name stands in a land. */
    private static final class DecadesReader {
        final Tokens tokens = new Tokens();
        // the lines of those whens and loops that have no end yet
        private final int[] open = new int[MOST_NESTED];
        private int depth;

        boolean readInto(Script script, Land land) {
            script.clear();
            script.isThere = true;
            depth = 0;
            for (int line = 0; line < MOST_LINES && !tokens.isAtEnd(); line++) {
                boolean taken = tokens.word == W_END ? readEnd(script, line) : readStep(script, line, land);
                if (!taken) {
                    return false;
                }
                script.lines = line + 1;
            }
            return depth == 0 && tokens.isAtEnd() || tokens.fail(F_ORDER);
        }

        private boolean readEnd(Script script, int line) {
            if (depth <= 0) {
                return tokens.fail(F_ORDER);
            }
            depth--;
            int beginning = open[depth];
            script.kind[line] = W_END;
            script.mate[line] = beginning;
            script.mate[beginning] = line;
            tokens.advance();
            return tokens.takeClose();
        }

        private boolean readStep(Script script, int line, Land land) {
            int word = tokens.word;
            if (!beginsStep(word)) {
                return tokens.fail(F_ORDER);
            }
            if (script.steps >= MOST_STEPS_TOLD) {
                return tokens.fail(F_MANY);
            }
            if (word == W_WHEN || word == W_LOOP) {
                if (depth >= MOST_NESTED) {
                    return tokens.fail(F_DEEP);
                }
                open[depth] = line;
                depth++;
            }
            script.steps++;
            tokens.advance();
            script.test[line] = tokens.word;
            boolean taken = word == W_WHEN ? readTest(land) : readRest(word, land);
            if (!taken) {
                return false;
            }
            script.kind[line] = word;
            script.who[line] = tokens.takenPayer;
            script.what[line] = tokens.takenDeed;
            script.sign[line] = tokens.takenSign;
            script.number[line] = tokens.takenNumber;
            return tokens.takeClose();
        }

        private static boolean beginsStep(int word) {
            switch (word) {
                case W_STEP:
                case W_SHRINK:
                case W_YEAR:
                case W_RATE:
                case W_ANY:
                case W_WHEN:
                case W_LOOP:
                case W_STOP:
                    return true;
                default:
                    return false;
            }
        }

        private boolean readRest(int word, Land land) {
            switch (word) {
                case W_STEP:
                case W_SHRINK:
                    return tokens.takePayer(land) && tokens.takeDeed(land);
                case W_YEAR:
                    return tokens.takeNumber(1, MOST_YEARS_TOLD);
                case W_RATE:
                    return tokens.takeDeed(land) && tokens.takeNumber(0, MOST_RATE);
                case W_LOOP:
                    return tokens.takeNumber(1, MOST_LOOPS);
                default:
                    return true;
            }
        }

        private boolean readTest(Land land) {
            int word = tokens.word;
            if (word != W_DONE && word != W_NEAR && word != W_PURSE && word != W_OWES) {
                return tokens.fail(F_ORDER);
            }
            tokens.advance();
            if (!tokens.takePayer(land)) {
                return false;
            }
            switch (word) {
                case W_DONE:
                    return tokens.takeDeed(land);
                case W_NEAR:
                    return tokens.takeDeed(land) && tokens.takeCompare() && tokens.takeNumber(0, MOST_HARD);
                case W_PURSE:
                    return tokens.takeCompare() && tokens.takeNumber(0, MOST_PURSE);
                default:
                    return true;
            }
        }
    }

    /** Lives decades in a land, by draws. */
    private static final class Life {
        // of each loop that is gone through, how often it is yet to be
        private final int[] turnsLeft = new int[MOST_LINES];
        final int[] facts = new int[MOST_LIVED];
        int steps;
        private int draws;

        void run(Script script, Land land, int seed) {
            Arrays.fill(facts, 0);
            steps = 0;
            draws = seed;
            int line = 0;
            for (int tick = 0; tick < MOST_TICKS && line < script.lines; tick++) {
                int kind = script.kind[line];
                if (kind == W_END) {
                    line = behindEnd(script, line);
                } else if (steps >= MOST_STEPS_DONE) {
                    facts[L_LEFT] = 1;
                    return;
                } else {
                    steps++;
                    if (kind == W_STOP) {
                        return;
                    }
                    line = behindStep(script, land, line);
                }
            }
        }

        private int behindEnd(Script script, int line) {
            int beginning = script.mate[line];
            if (script.kind[beginning] == W_LOOP && turnsLeft[beginning] > 1) {
                turnsLeft[beginning]--;
                return beginning + 1;
            }
            return line + 1;
        }

        private int behindStep(Script script, Land land, int line) {
            int who = script.who[line];
            int what = script.what[line];
            boolean done;
            switch (script.kind[line]) {
                case W_WHEN:
                    return holds(script, land, line) ? line + 1 : script.mate[line] + 1;
                case W_LOOP:
                    turnsLeft[line] = script.number[line];
                    // turns of a loop with nothing in it would be many and do nothing
                    return script.mate[line] == line + 1 ? line + 2 : line + 1;
                case W_STEP:
                    done = stepped(land, who, what);
                    break;
                case W_SHRINK:
                    done = shrank(land, who, what);
                    break;
                case W_YEAR:
                    done = passed(land, script.number[line]);
                    break;
                case W_RATE:
                    done = rated(land, what, script.number[line]);
                    break;
                default:
                    done = drawn(land);
                    break;
            }
            facts[L_MISSED] += done ? 0 : 1;
            return line + 1;
        }

        private boolean stepped(Land land, int who, int what) {
            if (!land.canStep(who, what)) {
                return false;
            }
            land.takeStep(who, what);
            if (land.isDone(who, what)) {
                facts[L_DONE]++;
            }
            return true;
        }

        private static boolean shrank(Land land, int who, int what) {
            if (!land.isNear(who, what)) {
                return false;
            }
            land.takeBack(who, what);
            return true;
        }

        private boolean passed(Land land, int years) {
            if (land.year + years > LAST_YEAR) {
                return false;
            }
            facts[L_PAID] += land.passYears(years);
            facts[L_YEARS] += years;
            return true;
        }

        private static boolean rated(Land land, int what, int rate) {
            if (land.rate[what] == rate) {
                return false;
            }
            land.rate[what] = rate;
            return true;
        }

        private boolean drawn(Land land) {
            if (land.payers < 1 || land.deeds < 1) {
                return false;
            }
            int who = draw(land.payers);
            int what = draw(land.deeds);
            boolean nearer = draw(MOST_ODDS) < land.odds;
            return nearer ? stepped(land, who, what) : shrank(land, who, what);
        }

        private int draw(int among) {
            draws = (draws * 2971 + 10909) % 65536;
            return among > 0 ? draws / 8 % among : 0;
        }

        private static boolean holds(Script script, Land land, int line) {
            int who = script.who[line];
            int what = script.what[line];
            switch (script.test[line]) {
                case W_DONE: return land.isDone(who, what);
                case W_NEAR: return compares(land.nearOf(who, what), script.sign[line], script.number[line]);
                case W_PURSE: return compares(land.purse[who], script.sign[line], script.number[line]);
                default: return land.owed[who] > 0;
            }
        }

        private static boolean compares(int a, int sign, int b) {
            if (sign == '<') {
                return a < b;
            }
            return sign == '>' ? a > b : a == b;
        }
    }

    /** Which deeds one should do rather than pay. */
    private static final class Planner {
        final int[] parts = new int[MOST_DEEDS];
        private final int[] partSums = new int[MOST_SETS];
        private final int[] costSums = new int[MOST_SETS];
        private int doneSet;
        private int purse;
        private int allowance;
        private int deeds;
        int bestTotal;
        int bestSet;

        void look(Land land, int payer) {
            deeds = land.deeds;
            purse = land.purse[payer];
            allowance = land.allowance;
            doneSet = land.doneSet(payer);
            for (int d = 0; d < deeds; d++) {
                parts[d] = land.partOf(payer, d);
            }
            addUp(costSums, land.cost, deeds);
        }

        void choose(int years) {
            addUp(partSums, parts, deeds);
            int sets = 1 << deeds;
            bestSet = 0;
            bestTotal = totalOf(0, sets, years);
            for (int set = 1; set < sets; set++) {
                if ((set & doneSet) == 0 && costSums[set] <= purse) {
                    keepIfBetter(set, totalOf(set, sets, years));
                }
            }
        }

        /** Sets come by their numbers, so of those with as many deeds the first is kept. */
        private void keepIfBetter(int set, int total) {
            boolean fewer = Integer.bitCount(set) < Integer.bitCount(bestSet);
            if (total < bestTotal || total == bestTotal && fewer) {
                bestTotal = total;
                bestSet = set;
            }
        }

        private int totalOf(int set, int sets, int years) {
            int left = partSums[sets - 1] - partSums[set];
            return costSums[set] + years * Math.max(0, left - allowance);
        }
    }

    /** Which sets of deeds fit receipts. */
    private static final class Receipts {
        // of each set of deeds all FULL together
        private final int[] sums = new int[MOST_SETS];
        private final int[] fulls = new int[MOST_DEEDS];
        private final int[] alike = new int[MOST_DEEDS * MOST_RATE + 1];
        final int[] fitting = new int[MOST_SETS];
        int count;

        void sift(Land land, Tray told, int n) {
            for (int d = 0; d < land.deeds; d++) {
                fulls[d] = land.fullOf(d);
            }
            addUp(sums, fulls, land.deeds);
            count = 0;
            int sets = land.setsOfDeeds();
            for (int set = 0; set < sets; set++) {
                if (fitsAll(set, told, n)) {
                    fitting[count] = set;
                    count++;
                }
            }
        }

        private boolean fitsAll(int set, Tray told, int n) {
            for (int i = 0; i < n; i++) {
                int asked = (int) told.cells[2 * i];
                if (sums[set & asked] != told.cells[2 * i + 1]) {
                    return false;
                }
            }
            return true;
        }

        int commonSet() {
            int common = MOST_SETS - 1;
            for (int i = 0; i < count; i++) {
                common &= fitting[i];
            }
            return common;
        }

        int bestQuestion(int sets) {
            int best = 0;
            int fewest = count;
            for (int asked = 1; asked < sets; asked++) {
                int most = mostAlike(asked);
                if (most < fewest) {
                    fewest = most;
                    best = asked;
                }
            }
            return best;
        }

        private int mostAlike(int asked) {
            for (int i = 0; i < count; i++) {
                alike[sums[fitting[i] & asked]] = 0;
            }
            int most = 0;
            for (int i = 0; i < count; i++) {
                int sum = sums[fitting[i] & asked];
                alike[sum]++;
                most = Math.max(most, alike[sum]);
            }
            return most;
        }
    }

    /** Who should be told which deed. */
    private static final class Helper {
        private final int[] wants = new int[MOST_PAYERS];
        // how many can be told a deed from a payer on, by the set of deeds told ahead of him
        private final int[][] most = new int[MOST_PAYERS + 1][MOST_SETS];
        private int deeds;

        void look(Land land) {
            deeds = land.deeds;
            Arrays.fill(most[land.payers], 0);
            int sets = land.setsOfDeeds();
            for (int p = land.payers - 1; p >= 0; p--) {
                wants[p] = land.nearSet(p);
                for (int told = 0; told < sets; told++) {
                    most[p][told] = mostFrom(p, told);
                }
            }
        }

        private int mostFrom(int p, int told) {
            int best = most[p + 1][told];
            int free = wants[p] & ~told;
            for (int d = 0; d < deeds; d++) {
                if (has(free, d)) {
                    best = Math.max(best, 1 + most[p + 1][told | 1 << d]);
                }
            }
            return best;
        }

        int mostOfAll() {
            return most[0][0];
        }

        int deedFor(int payer) {
            int told = 0;
            int deed = NONE;
            for (int p = 0; p <= payer; p++) {
                deed = leastDeed(p, told);
                if (deed != NONE) {
                    told |= 1 << deed;
                }
            }
            return deed;
        }

        private int leastDeed(int p, int told) {
            int free = wants[p] & ~told;
            for (int d = 0; d < deeds; d++) {
                if (has(free, d) && 1 + most[p + 1][told | 1 << d] == most[p][told]) {
                    return d;
                }
            }
            return NONE;
        }
    }
}
