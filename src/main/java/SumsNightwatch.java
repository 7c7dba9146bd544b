import java.util.Arrays;

/** Books whose digits drift unless a watchman taps them. ../shared/DOC.md says what each call promises. */
public final class SumsNightwatch {
    public static final int NONE = -1;

    private static final int NO_TRAY = 1;
    private static final int NO_SUCH = 2;
    private static final int TRAY_MISSING = 3;
    private static final int NO_PLACE = 4;
    private static final int BAD_NUMBER = 5;
    private static final int BELOW_ZERO = 6;
    private static final int TOO_MANY = 7;
    private static final int THERE_IS_NONE = 8;
    private static final int CANT_BE = 9;
    private static final int FAULTY = 10;
    private static final int UNLIKE_SORTS = 11;

    private static final int FAULT_NO_TOKEN = 1;
    private static final int FAULT_NOT_THERE = 2;
    private static final int FAULT_NAME = 3;
    private static final int FAULT_NUMBER = 4;
    private static final int FAULT_TOLD_ALREADY = 5;
    private static final int FAULT_ONE_TOO_MANY = 6;
    private static final int FAULT_TOO_DEEP = 7;

    private static final int MOST_WIDE = 5;
    private static final int MOST_TAP = 9;
    private static final int MOST_ODDS = 16;
    private static final int MOST_ACCOUNTS = 5;
    private static final int MOST_CELLS = 25;
    private static final int MOST_LAWS = 10;
    private static final int MOST_MARKS = 3;
    private static final int MOST_STEPS = 5;
    private static final int MOST_TURNS = 2;
    private static final int MOST_DOZES = 12;
    private static final int MOST_SEEDS = 20;
    private static final int LAST_SEED = 9999;
    private static final int LAST_HOUR = 9999;
    private static final int HOURS_AHEAD = 300;

    private static final int UP = 0;
    private static final int DOWN = 1;
    private static final int LEFT = 2;
    private static final int RIGHT = 3;
    private static final int STAY = 4;

    /** The way that leads to each PLACE of a LAW (always, left, right, above, below). */
    private static final int[] WAY_TO_PLACE = {STAY, LEFT, RIGHT, UP, DOWN};
    private static final int[] TENS = {1, 10, 100, 1000, 10000, 100000};

    /** The words that no NAME may be; each one's number, as the WORD constants say, is its place in this row. */
    private static final String SET_WORDS = "wide tap odds account debit credit law becomes left right above below watch step up down stay doze mend steal any when wrong digit even loop end stop";
    private static final int MANY_WORDS = 28;
    private static final int WORD_WIDE = 0;
    private static final int WORD_TAP = 1;
    private static final int WORD_ODDS = 2;
    private static final int WORD_ACCOUNT = 3;
    private static final int WORD_DEBIT = 4;
    private static final int WORD_CREDIT = 5;
    private static final int WORD_LAW = 6;
    private static final int WORD_BECOMES = 7;
    private static final int WORD_LEFT = 8;
    private static final int WORD_RIGHT = 9;
    private static final int WORD_BELOW = 11;
    private static final int WORD_WATCH = 12;
    private static final int WORD_STEP = 13;
    private static final int WORD_UP = 14;
    private static final int WORD_DOWN = 15;
    private static final int WORD_STAY = 16;
    private static final int WORD_DOZE = 17;
    private static final int WORD_MEND = 18;
    private static final int WORD_STEAL = 19;
    private static final int WORD_ANY = 20;
    private static final int WORD_WHEN = 21;
    private static final int WORD_WRONG = 22;
    private static final int WORD_DIGIT = 23;
    private static final int WORD_EVEN = 24;
    private static final int WORD_LOOP = 25;
    private static final int WORD_END = 26;
    private static final int WORD_STOP = 27;

    private int status;
    private long top;
    private long bottom;
    private int marks;
    private final Trays trays;
    private final Tape tape;
    private final BookReader bookReader;
    private final NightsReader nightsReader;
    private Book page;
    private Book spare;
    private Nights nights;
    private Nights spareNights;
    private final Book[] keptBooks;
    private final Nights[] keptNights;
    private final Rounds rounds;
    private final Pasts pasts;
    private final Life latest;
    private final Life trial;

    public SumsNightwatch() {
        status = 0;
        top = 0;
        bottom = 1;
        marks = 0;
        trays = new Trays();
        tape = new Tape();
        bookReader = new BookReader(tape);
        nightsReader = new NightsReader(tape);
        page = new Book();
        spare = new Book();
        nights = new Nights();
        spareNights = new Nights();
        keptBooks = new Book[MOST_MARKS];
        keptNights = new Nights[MOST_MARKS];
        for (int i = 0; i < MOST_MARKS; i++) {
            keptBooks[i] = new Book();
            keptNights[i] = new Nights();
        }
        rounds = new Rounds();
        pasts = new Pasts();
        latest = new Life();
        trial = new Life();
    }

    private int refuse(int why) {
        status = why;
        return NONE;
    }

    private int answer(int what) {
        status = 0;
        return what;
    }

    private boolean verdict(int why) {
        status = why;
        return why == 0;
    }

    private boolean tellFraction(long over, long under) {
        long common = commonDivisor(over, under);
        if (common <= 0) {
            return verdict(THERE_IS_NONE);
        }
        top = over / common;
        bottom = under / common;
        return verdict(0);
    }

    /** Euclid's loop halves its numbers at least every second time, so 200 turns are beyond any long. */
    private static long commonDivisor(long one, long other) {
        long a = one;
        long b = other;
        for (int i = 0; i < 200 && b != 0; i++) {
            long rest = a % b;
            a = b;
            b = rest;
        }
        return a;
    }

    private static boolean within(int number, int least, int most) {
        return number >= least && number <= most;
    }

    // ---- what is told latest

    public int status() {
        return status;
    }

    public long top() {
        return top;
    }

    public long bottom() {
        return bottom;
    }

    // ---- TRAYS

    public boolean tray(int tray, int sort, int many) {
        if (!trays.isNumber(tray) || !within(sort, 0, 3)) {
            return verdict(NO_TRAY);
        }
        if (many > Trays.MOST_NUMBERS) {
            return verdict(BAD_NUMBER);
        }
        if (many < 0) {
            return verdict(BELOW_ZERO);
        }
        trays.make(tray, sort, many);
        return verdict(0);
    }

    public boolean write(int tray, int place, long v) {
        int why = trays.lookAt(tray, place);
        if (why == 0) {
            trays.put(tray, place, v);
        }
        return verdict(why);
    }

    public long read(int tray, int place) {
        int why = trays.lookAt(tray, place);
        status = why;
        return why == 0 ? trays.rows[tray][place] : NONE;
    }

    public boolean pour(int tray, int i, int to, int j, int many) {
        if (!trays.isNumber(tray) || !trays.isNumber(to)) {
            return verdict(NO_TRAY);
        }
        if (trays.isMissing(tray) || trays.isMissing(to)) {
            return verdict(TRAY_MISSING);
        }
        if (trays.sorts[tray] != trays.sorts[to]) {
            return verdict(UNLIKE_SORTS);
        }
        if (many < 0) {
            return verdict(BELOW_ZERO);
        }
        if (!trays.holds(tray, i, many) || !trays.holds(to, j, many)) {
            return verdict(NO_PLACE);
        }
        System.arraycopy(trays.rows[tray], i, trays.rows[to], j, many);
        return verdict(0);
    }

    // ---- texts

    public int feed(int a, int b, int c, int d, int e) {
        if (tape.many + Tape.BYTES_FED > Tape.MOST_BYTES) {
            return NONE;
        }
        tape.append(a);
        tape.append(b);
        tape.append(c);
        tape.append(d);
        tape.append(e);
        return tape.many;
    }

    public int book(int n) {
        if (n < 0 || n > tape.many) {
            return refuse(BAD_NUMBER);
        }
        if (!bookReader.fill(spare, n)) {
            return refuse(FAULTY);
        }
        Book old = page;
        page = spare;
        spare = old;
        nights.empty();
        return answer(page.accounts);
    }

    public int nights(int n) {
        if (n < 0 || n > tape.many || n > Nights.MOST_BYTES) {
            return refuse(BAD_NUMBER);
        }
        if (!nightsReader.fill(spareNights, page, n)) {
            return refuse(FAULTY);
        }
        Nights old = nights;
        nights = spareNights;
        spareNights = old;
        return answer(nights.orders);
    }

    public int fault(int what) {
        if (what == 0) {
            return tape.fault;
        }
        return what == 1 ? tape.faultPlace : NONE;
    }

    public int many(int what) {
        switch (what) {
            case 0:
                return answer(page.accounts);
            case 1:
                return answer(page.laws.count);
            case 2:
                return answer(page.wide);
            case 3:
                return answer(page.tapHours);
            case 4:
                return answer(page.odds);
            case 5:
                return answer(page.hour);
            case 6:
                return answer(page.cells());
            case 7:
                return answer(page.wrongs());
            case 8:
                return answer(page.tappedSet());
            case 9:
                return answer(page.stolen);
            case 10:
                return answer(page.surplus() == 0 ? 1 : 0);
            default:
                return refuse(BAD_NUMBER);
        }
    }

    public int cell(int cell, int what) {
        if (!page.hasCell(cell)) {
            return refuse(NO_SUCH);
        }
        switch (what) {
            case 0:
                return answer(page.digits[cell]);
            case 1:
                return answer(page.truths[cell]);
            case 2:
                return answer(page.taps[cell]);
            case 3:
                return answer(page.isWrong(cell) ? 1 : 0);
            default:
                return refuse(BAD_NUMBER);
        }
    }

    public int watch() {
        return page.accounts == 0 ? refuse(THERE_IS_NONE) : answer(page.stand);
    }

    public int account(int account, int what) {
        if (!page.hasAccount(account)) {
            return refuse(NO_SUCH);
        }
        switch (what) {
            case 0:
                return answer(page.kinds[account]);
            case 1:
                return answer(page.sumOf(page.digits, account));
            case 2:
                return answer(page.sumOf(page.truths, account));
            case 3:
                return answer(page.togetherInRow(page.digits, account));
            default:
                return refuse(BAD_NUMBER);
        }
    }

    public int law(int law, int what) {
        Laws laws = page.laws;
        if (!laws.has(law)) {
            return refuse(NO_SUCH);
        }
        switch (what) {
            case 0:
                return answer(laws.firsts[law]);
            case 1:
                return answer(laws.seconds[law]);
            case 2:
                return answer(laws.places[law]);
            case 3:
                return answer(laws.besides[law]);
            default:
                return refuse(BAD_NUMBER);
        }
    }

    public int balance() {
        return answer(page.surplus());
    }

    public int copyDigits(int tray) {
        if (!trays.isNumber(tray)) {
            return refuse(NO_TRAY);
        }
        if (trays.isMissing(tray)) {
            return refuse(TRAY_MISSING);
        }
        int cells = page.cells();
        if (!trays.holds(tray, 0, cells)) {
            return refuse(NO_PLACE);
        }
        for (int c = 0; c < cells; c++) {
            trays.put(tray, c, page.digits[c]);
        }
        return answer(cells);
    }

    // ---- what is done

    public int step(int way) {
        if (!within(way, UP, STAY)) {
            return refuse(BAD_NUMBER);
        }
        if (page.hour >= LAST_HOUR) {
            return refuse(TOO_MANY);
        }
        if (page.accounts == 0) {
            return refuse(THERE_IS_NONE);
        }
        int to = page.gone(page.stand, way);
        if (to == NONE) {
            return refuse(CANT_BE);
        }
        page.standAndTap(to);
        page.passHours(1);
        return answer(to);
    }

    public int doze(int hours) {
        if (!within(hours, 1, 99)) {
            return refuse(BAD_NUMBER);
        }
        if (page.hour + hours > LAST_HOUR) {
            return refuse(TOO_MANY);
        }
        page.passHours(hours);
        return answer(page.wrongs());
    }

    public int mend(int cell) {
        if (!page.hasCell(cell)) {
            return refuse(NO_SUCH);
        }
        if (!page.isWrong(cell)) {
            return refuse(CANT_BE);
        }
        return answer(page.putDigit(cell, page.truths[cell]));
    }

    public int steal(int cell) {
        if (!page.hasCell(cell)) {
            return refuse(NO_SUCH);
        }
        if (page.digits[cell] == 0) {
            return refuse(CANT_BE);
        }
        return answer(page.takeAway(cell));
    }

    public int scratch(int cell, int digit) {
        if (!page.hasCell(cell)) {
            return refuse(NO_SUCH);
        }
        if (!within(digit, 0, 9)) {
            return refuse(BAD_NUMBER);
        }
        if (page.digits[cell] == digit) {
            return refuse(CANT_BE);
        }
        return answer(page.putDigit(cell, digit));
    }

    public int vouch(int cell) {
        if (!page.hasCell(cell)) {
            return refuse(NO_SUCH);
        }
        if (!page.isWrong(cell)) {
            return refuse(CANT_BE);
        }
        int before = page.truths[cell];
        page.truths[cell] = page.digits[cell];
        return answer(before);
    }

    public int enact(int digit, int becomes, int place, int beside) {
        if (!within(digit, 0, 9) || !within(becomes, 0, 9) || !within(place, 0, 4)) {
            return refuse(BAD_NUMBER);
        }
        if (place != 0 && !within(beside, 0, 9)) {
            return refuse(BAD_NUMBER);
        }
        if (page.laws.count >= MOST_LAWS) {
            return refuse(TOO_MANY);
        }
        page.laws.add(digit, becomes, place, beside);
        return answer(page.laws.count - 1);
    }

    public int repeal(int law) {
        if (!page.laws.has(law)) {
            return refuse(NO_SUCH);
        }
        page.laws.strike(law);
        return answer(page.laws.count);
    }

    public boolean rule(int what, int much) {
        if (what == 3 && within(much, 1, MOST_TAP)) {
            page.tapHours = much;
            return verdict(0);
        }
        if (what == 4 && within(much, 0, MOST_ODDS)) {
            page.odds = much;
            return verdict(0);
        }
        return verdict(BAD_NUMBER);
    }

    // ---- HOURS ahead: the spare BOOK goes on in place of that which is there

    private Book spareAhead(int hours) {
        spare.takeFrom(page);
        spare.passHours(hours);
        return spare;
    }

    public int digitIn(int cell, int hours) {
        if (!page.hasCell(cell)) {
            return refuse(NO_SUCH);
        }
        if (!within(hours, 0, HOURS_AHEAD)) {
            return refuse(BAD_NUMBER);
        }
        return answer(spareAhead(hours).digits[cell]);
    }

    public int wrongIn(int hours) {
        if (!within(hours, 0, HOURS_AHEAD)) {
            return refuse(BAD_NUMBER);
        }
        return answer(spareAhead(hours).wrongs());
    }

    public int wrongBy(int cell) {
        if (!page.hasCell(cell)) {
            return refuse(NO_SUCH);
        }
        Book ahead = spareAhead(0);
        for (int h = 0; h <= HOURS_AHEAD; h++) {
            if (ahead.isWrong(cell)) {
                return answer(h);
            }
            ahead.passHours(1);
        }
        return refuse(THERE_IS_NONE);
    }

    public int evenIn() {
        Book ahead = spareAhead(0);
        for (int h = 0; h <= HOURS_AHEAD; h++) {
            if (ahead.surplus() == 0) {
                return answer(h);
            }
            ahead.passHours(1);
        }
        return refuse(THERE_IS_NONE);
    }

    public int stillIn() {
        Book ahead = spareAhead(0);
        for (int h = 0; h <= HOURS_AHEAD; h++) {
            if (!ahead.passHours(1)) {
                return answer(h);
            }
        }
        return refuse(THERE_IS_NONE);
    }

    public int bears(int cell) {
        if (!page.hasCell(cell)) {
            return refuse(NO_SUCH);
        }
        int law = page.bearing(page.digits, cell);
        return law == NONE ? refuse(THERE_IS_NONE) : answer(law);
    }

    // ---- rounds

    private int lookAtRound(int cells, int n) {
        if (!within(n, 1, MOST_STEPS) || !within(cells, 0, (1 << page.cells()) - 1)) {
            return BAD_NUMBER;
        }
        return page.accounts == 0 ? THERE_IS_NONE : 0;
    }

    public int round(int cells, int n) {
        int why = lookAtRound(cells, n);
        if (why != 0) {
            return refuse(why);
        }
        rounds.seek(page, cells, n);
        return answer(rounds.fewest);
    }

    public int roundAt(int cells, int n, int k) {
        int why = within(k, 0, MOST_STEPS - 1) && k < n ? lookAtRound(cells, n) : BAD_NUMBER;
        if (why != 0) {
            return refuse(why);
        }
        rounds.seek(page, cells, n);
        return answer(rounds.best[k]);
    }

    public int far(int cell) {
        if (!page.hasCell(cell)) {
            return refuse(NO_SUCH);
        }
        return answer(page.stepsBetween(page.stand, cell));
    }

    // ---- what stood there

    public int past(int account) {
        if (!page.hasAccount(account)) {
            return refuse(NO_SUCH);
        }
        pasts.gather(page, account);
        return answer(pasts.rowsInAll);
    }

    public int likely(int account, int sum) {
        if (!page.hasAccount(account)) {
            return refuse(NO_SUCH);
        }
        if (sum < 0) {
            return refuse(BAD_NUMBER);
        }
        return answer(pasts.couldHaveBeen(page, account, sum) ? 1 : 0);
    }

    public int leastPast(int account) {
        if (!page.hasAccount(account)) {
            return refuse(NO_SUCH);
        }
        pasts.gather(page, account);
        return pasts.rowsInAll == 0 ? refuse(THERE_IS_NONE) : answer(pasts.leastSum);
    }

    public int may(int digit) {
        return within(digit, 0, 9) ? answer(page.laws.reach(digit)) : refuse(BAD_NUMBER);
    }

    public int theft() {
        int set = 0;
        for (int c = 0; c < page.cells(); c++) {
            if ((page.laws.reach(page.truths[c]) >> page.digits[c] & 1) == 0) {
                set |= 1 << c;
            }
        }
        return answer(set);
    }

    public int told() {
        int cell = page.cellBySums();
        return cell == NONE ? refuse(THERE_IS_NONE) : answer(cell);
    }

    public int rubbed() {
        int set = page.leastRubbed();
        return set == NONE ? refuse(THERE_IS_NONE) : answer(Integer.bitCount(set));
    }

    public int rubbedSet() {
        int set = page.leastRubbed();
        return set == NONE ? refuse(THERE_IS_NONE) : answer(set);
    }

    // ---- games, odds

    public int game(int turns) {
        if (!within(turns, 0, MOST_TURNS)) {
            return refuse(BAD_NUMBER);
        }
        if (page.accounts == 0) {
            return refuse(THERE_IS_NONE);
        }
        return answer(Games.loot(page, turns, page.stand, 0));
    }

    public int moveOf(int turns) {
        if (!within(turns, 1, MOST_TURNS)) {
            return refuse(BAD_NUMBER);
        }
        if (page.accounts == 0) {
            return refuse(THERE_IS_NONE);
        }
        int cell = Games.firstTheft(page, turns);
        return cell == NONE ? refuse(THERE_IS_NONE) : answer(cell);
    }

    public boolean dozes(int n, int k) {
        if (!within(n, 0, MOST_DOZES) || !within(k, 0, MOST_DOZES)) {
            return verdict(BAD_NUMBER);
        }
        return tellFraction(waysToDoze(page.odds, n, k), power(MOST_ODDS, n));
    }

    /** Of MOST_ODDS to the n-th ways through n HOURS: those with k or more DOZES. */
    private static long waysToDoze(int odds, int n, int k) {
        long ways = 0;
        long choices = 1;
        for (int i = 0; i <= n; i++) {
            if (i >= k) {
                ways += choices * power(odds, i) * power(MOST_ODDS - odds, n - i);
            }
            choices = choices * (n - i) / (i + 1);
        }
        return ways;
    }

    private static long power(int base, int times) {
        long product = 1;
        for (int i = 0; i < times; i++) {
            product *= base;
        }
        return product;
    }

    public boolean shame() {
        int cells = page.cells();
        return cells == 0 ? verdict(THERE_IS_NONE) : tellFraction(page.wrongs(), cells);
    }

    // ---- NIGHTS

    public int live(int seed) {
        if (!within(seed, 0, LAST_SEED)) {
            return refuse(BAD_NUMBER);
        }
        if (!nights.areThere) {
            return refuse(THERE_IS_NONE);
        }
        latest.goThrough(page, nights, seed);
        return answer(latest.done);
    }

    public int lived(int what) {
        if (!within(what, 0, 4)) {
            return refuse(BAD_NUMBER);
        }
        if (!latest.hasBeen) {
            return refuse(THERE_IS_NONE);
        }
        switch (what) {
            case 0:
                return answer(latest.missed);
            case 1:
                return answer(latest.hours);
            case 2:
                return answer(latest.steps);
            case 3:
                return answer(latest.stolen);
            default:
                return answer(latest.left);
        }
    }

    public boolean mean(int seed, int many) {
        if (!within(many, 1, MOST_SEEDS) || !within(seed, 0, LAST_SEED - many + 1)) {
            return verdict(BAD_NUMBER);
        }
        if (!nights.areThere) {
            return verdict(THERE_IS_NONE);
        }
        long wrongs = 0;
        for (int i = 0; i < many; i++) {
            spare.takeFrom(page);
            trial.goThrough(spare, nights, seed + i);
            wrongs += spare.wrongs();
        }
        return tellFraction(wrongs, many);
    }

    // ---- MARKS

    public int mark() {
        if (marks >= MOST_MARKS) {
            return refuse(TOO_MANY);
        }
        keptBooks[marks].takeFrom(page);
        keptNights[marks].takeFrom(nights);
        marks++;
        return answer(marks);
    }

    public int back() {
        if (marks <= 0) {
            return refuse(THERE_IS_NONE);
        }
        marks--;
        page.takeFrom(keptBooks[marks]);
        nights.takeFrom(keptNights[marks]);
        return answer(marks);
    }

    /** The TRAYS; their rows are as long as any may be, so that none is made anew. */
    private static final class Trays {
        static final int MANY_TRAYS = 4;
        static final int MOST_NUMBERS = 60;

        final long[][] rows = new long[MANY_TRAYS][MOST_NUMBERS];
        final int[] lengths = new int[MANY_TRAYS];
        final int[] sorts = new int[MANY_TRAYS];

        Trays() {
            Arrays.fill(lengths, NONE);
        }

        boolean isNumber(int number) {
            return within(number, 0, MANY_TRAYS - 1);
        }

        boolean isMissing(int number) {
            return lengths[number] == NONE;
        }

        void make(int number, int sort, int length) {
            sorts[number] = sort;
            lengths[number] = length;
            Arrays.fill(rows[number], 0);
        }

        boolean holds(int number, int from, int much) {
            return from >= 0 && from <= lengths[number] && much <= lengths[number] - from;
        }

        int lookAt(int number, int place) {
            if (!isNumber(number)) {
                return NO_TRAY;
            }
            if (isMissing(number)) {
                return TRAY_MISSING;
            }
            return within(place, 0, lengths[number] - 1) ? 0 : NO_PLACE;
        }

        void put(int number, int place, long v) {
            rows[number][place] = cut(v, sorts[number]);
        }

        private static long cut(long v, int sort) {
            switch (sort) {
                case 0:
                    return (byte) v;
                case 1:
                    return (short) v;
                case 2:
                    return (int) v;
                default:
                    return v;
            }
        }
    }

    /** The LAWS of a BOOK, in the order in which they are asked. */
    private static final class Laws {
        int count;
        final int[] firsts = new int[MOST_LAWS];
        final int[] seconds = new int[MOST_LAWS];
        final int[] places = new int[MOST_LAWS];
        final int[] besides = new int[MOST_LAWS];

        void takeFrom(Laws other) {
            count = other.count;
            System.arraycopy(other.firsts, 0, firsts, 0, MOST_LAWS);
            System.arraycopy(other.seconds, 0, seconds, 0, MOST_LAWS);
            System.arraycopy(other.places, 0, places, 0, MOST_LAWS);
            System.arraycopy(other.besides, 0, besides, 0, MOST_LAWS);
        }

        boolean has(int number) {
            return within(number, 0, count - 1);
        }

        void add(int first, int second, int place, int beside) {
            if (count >= MOST_LAWS) {
                return;
            }
            firsts[count] = first;
            seconds[count] = second;
            places[count] = place;
            besides[count] = place == 0 ? 0 : beside;
            count++;
        }

        void strike(int number) {
            if (!has(number)) {
                return;
            }
            count--;
            for (int i = number; i < count; i++) {
                firsts[i] = firsts[i + 1];
                seconds[i] = seconds[i + 1];
                places[i] = places[i + 1];
                besides[i] = besides[i + 1];
            }
        }

        /** The set of DIGITS that stand first in a LAW: a DRIFT need not ask LAWS for others. */
        int touched() {
            int set = 0;
            for (int i = 0; i < count; i++) {
                set |= 1 << firsts[i];
            }
            return set;
        }

        /** Each turn of the outer loop that matters adds a DIGIT, so ten are enough. */
        int reach(int digit) {
            int set = 1 << digit;
            for (int turn = 0; turn < 10; turn++) {
                for (int i = 0; i < count; i++) {
                    if ((set >> firsts[i] & 1) != 0) {
                        set |= 1 << seconds[i];
                    }
                }
            }
            return set;
        }
    }

    /** A BOOK with all that became of it. A row, in its methods, is a DIGIT for each CELL. */
    private static final class Book {
        int wide;
        int tapHours;
        int odds;
        int accounts;
        int stand;
        int hour;
        int stolen;
        final Laws laws = new Laws();
        final int[] kinds = new int[MOST_ACCOUNTS];
        final long[] names = new long[MOST_ACCOUNTS];
        final int[] digits = new int[MOST_CELLS];
        final int[] truths = new int[MOST_CELLS];
        final int[] taps = new int[MOST_CELLS];
        private final int[] drifting = new int[MOST_CELLS];

        Book() {
            setBare();
        }

        private void setBare() {
            wide = 3;
            tapHours = 2;
            odds = 2;
            accounts = 0;
            stand = 0;
            hour = 0;
            stolen = 0;
            laws.count = 0;
        }

        void empty() {
            setBare();
            Arrays.fill(digits, 0);
            Arrays.fill(truths, 0);
            Arrays.fill(taps, 0);
        }

        void takeFrom(Book other) {
            wide = other.wide;
            tapHours = other.tapHours;
            odds = other.odds;
            accounts = other.accounts;
            stand = other.stand;
            hour = other.hour;
            stolen = other.stolen;
            laws.takeFrom(other.laws);
            System.arraycopy(other.kinds, 0, kinds, 0, MOST_ACCOUNTS);
            System.arraycopy(other.names, 0, names, 0, MOST_ACCOUNTS);
            System.arraycopy(other.digits, 0, digits, 0, MOST_CELLS);
            System.arraycopy(other.truths, 0, truths, 0, MOST_CELLS);
            System.arraycopy(other.taps, 0, taps, 0, MOST_CELLS);
        }

        int cells() {
            return accounts * wide;
        }

        boolean hasCell(int c) {
            return within(c, 0, cells() - 1);
        }

        boolean hasAccount(int a) {
            return within(a, 0, accounts - 1);
        }

        int accountNamed(long name) {
            for (int a = 0; a < accounts; a++) {
                if (names[a] == name) {
                    return a;
                }
            }
            return NONE;
        }

        int rowOf(int c) {
            return wide > 0 ? c / wide : 0;
        }

        int columnOf(int c) {
            return wide > 0 ? c % wide : 0;
        }

        /** The CELL to which a way leads from one, NONE if out of the BOOK. */
        int gone(int from, int way) {
            int cells = accounts * wide;
            if (from < 0 || from >= cells || wide <= 0) {
                return NONE;
            }
            int column = from % wide;
            switch (way) {
                case UP:
                    return from >= wide ? from - wide : NONE;
                case DOWN:
                    return from + wide < cells ? from + wide : NONE;
                case LEFT:
                    return column > 0 ? from - 1 : NONE;
                case RIGHT:
                    return column < wide - 1 ? from + 1 : NONE;
                case STAY:
                    return from;
                default:
                    return NONE;
            }
        }

        int stepsBetween(int one, int other) {
            return Math.abs(rowOf(one) - rowOf(other)) + Math.abs(columnOf(one) - columnOf(other));
        }

        /** The first LAW that bears on a CELL, NONE without. */
        int bearing(int[] row, int c) {
            for (int law = 0; law < laws.count; law++) {
                if (laws.firsts[law] == row[c]) {
                    int place = laws.places[law];
                    int there = gone(c, WAY_TO_PLACE[place]);
                    if (place == 0 || there != NONE && row[there] == laws.besides[law]) {
                        return law;
                    }
                }
            }
            return NONE;
        }

        int drifted(int[] row, int c) {
            int law = bearing(row, c);
            return law == NONE ? row[c] : laws.seconds[law];
        }

        /** DRIFT from one row into another one, CELLS with held HOURS being TAPPED: whether a DIGIT changed. */
        boolean drift(int[] row, int[] held, int[] into) {
            int touched = laws.touched();
            boolean moved = false;
            for (int c = 0; c < cells(); c++) {
                boolean stays = held[c] > 0 || (touched >> row[c] & 1) == 0;
                int law = stays ? NONE : bearing(row, c);
                into[c] = law == NONE ? row[c] : laws.seconds[law];
                moved = moved || into[c] != row[c];
            }
            return moved;
        }

        /** So many HOURS go by: whether a DIGIT changed in one of them. */
        boolean passHours(int hours) {
            boolean movedOnce = false;
            boolean goesOn = true;
            for (int i = 0; i < hours && goesOn; i++) {
                boolean moved = drift(digits, taps, drifting);
                System.arraycopy(drifting, 0, digits, 0, cells());
                movedOnce = movedOnce || moved;
                // What did not drift while nothing was TAPPED never will: the other HOURS only count.
                goesOn = moved || tappedSet() != 0;
                lessenTaps();
            }
            hour += hours;
            return movedOnce;
        }

        private void lessenTaps() {
            for (int c = 0; c < cells(); c++) {
                taps[c] = Math.max(taps[c] - 1, 0);
            }
        }

        void standAndTap(int c) {
            if (hasCell(c)) {
                stand = c;
                taps[c] = tapHours;
            }
        }

        int putDigit(int c, int digit) {
            int before = digits[c];
            digits[c] = digit;
            return before;
        }

        int takeAway(int c) {
            int much = putDigit(c, 0);
            stolen += much;
            return much;
        }

        boolean isWrong(int c) {
            return digits[c] != truths[c];
        }

        int wrongs() {
            int count = 0;
            for (int c = 0; c < cells(); c++) {
                count += isWrong(c) ? 1 : 0;
            }
            return count;
        }

        int tappedSet() {
            int set = 0;
            for (int c = 0; c < cells(); c++) {
                set |= taps[c] > 0 ? 1 << c : 0;
            }
            return set;
        }

        int sumOf(int[] row, int account) {
            int sum = 0;
            for (int p = 0; p < wide; p++) {
                sum = sum * 10 + row[account * wide + p];
            }
            return sum;
        }

        /** SUMS of debits less those of credits. */
        int surplus() {
            int more = 0;
            for (int a = 0; a < accounts; a++) {
                int sum = sumOf(digits, a);
                more += kinds[a] == 0 ? sum : -sum;
            }
            return more;
        }

        /** By how much the surplus is more, if a CELL's DIGIT is 1 more. */
        int weightOf(int c) {
            int weight = TENS[wide - 1 - columnOf(c)];
            return kinds[rowOf(c)] == 0 ? weight : -weight;
        }

        /** RUBBED as a set of CELLS, NONE if 2 are too few. */
        int leastRubbed() {
            int surplus = surplus();
            if (surplus == 0) {
                return 0;
            }
            for (int c = 0; c < cells(); c++) {
                if (evensOut(c, surplus)) {
                    return 1 << c;
                }
            }
            // As numbers, sets of two go by their higher CELL first.
            for (int high = 1; high < cells(); high++) {
                for (int low = 0; low < high; low++) {
                    if (evenOut(low, high, surplus)) {
                        return 1 << low | 1 << high;
                    }
                }
            }
            return NONE;
        }

        private boolean evensOut(int c, int surplus) {
            int weight = weightOf(c);
            for (int digit = 0; digit <= 9; digit++) {
                int by = digit - digits[c];
                if (by != 0 && surplus + by * weight == 0) {
                    return true;
                }
            }
            return false;
        }

        private boolean evenOut(int low, int high, int surplus) {
            int weight = weightOf(high);
            for (int digit = 0; digit <= 9; digit++) {
                int by = digit - digits[high];
                if (by != 0 && evensOut(low, surplus + by * weight)) {
                    return true;
                }
            }
            return false;
        }

        int togetherInRow(int[] row, int account) {
            int sum = 0;
            for (int p = 0; p < wide; p++) {
                sum += row[account * wide + p];
            }
            return sum;
        }

        private int togetherInColumn(int[] row, int place) {
            int sum = 0;
            for (int a = 0; a < accounts; a++) {
                sum += row[a * wide + place];
            }
            return sum;
        }

        /** The CELL of which SUMS tell, NONE without. */
        int cellBySums() {
            int account = NONE;
            int unlikeAccounts = 0;
            for (int a = 0; a < accounts; a++) {
                if (togetherInRow(digits, a) != togetherInRow(truths, a)) {
                    unlikeAccounts++;
                    account = a;
                }
            }
            int place = NONE;
            int unlikePlaces = 0;
            for (int p = 0; p < wide; p++) {
                if (togetherInColumn(digits, p) != togetherInColumn(truths, p)) {
                    unlikePlaces++;
                    place = p;
                }
            }
            if (unlikeAccounts != 1 || unlikePlaces != 1) {
                return NONE;
            }
            int byAccount = togetherInRow(digits, account) - togetherInRow(truths, account);
            int byPlace = togetherInColumn(digits, place) - togetherInColumn(truths, place);
            return byAccount == byPlace ? account * wide + place : NONE;
        }
    }

    /** The bytes that were fed, and the TOKEN of them that is looked at while they are read as a text. */
    private static final class Tape {
        static final int MOST_BYTES = 900;
        static final int BYTES_FED = 20;
        static final int MOST_LETTERS = 8;
        /** A letter is 1 to 26 of these, so WORDS of at most 8 letters are unlike as numbers, too. */
        static final int LETTERS = 32;
        static final int LETTER_AHEAD = 'a' - 1;
        static final int MOST_FIGURES = 4;
        static final int AT_END = 0;
        static final int WORD = 1;
        static final int NUMBER = 2;
        static final int SIGN = 3;
        static final int NO_TOKEN = 4;

        final byte[] bytes = new byte[MOST_BYTES];
        int many;
        int fault = NONE;
        int faultPlace = NONE;
        /** What kind the TOKEN is, and its number: a NUMBER's, a SIGN's, a set word's (NONE: another WORD). */
        int kind;
        int value;
        /** A WORD's letters as one number, 0 if they are more than a NAME has. */
        long name;
        /** The NUMBER that was taken latest. */
        int taken;
        private final long[] setWords = new long[MANY_WORDS];
        private int start;
        private int at;
        private int end;

        Tape() {
            int word = 0;
            for (int i = 0; i < SET_WORDS.length(); i++) {
                char letter = SET_WORDS.charAt(i);
                if (letter == ' ') {
                    word++;
                } else if (word < MANY_WORDS) {
                    setWords[word] = setWords[word] * LETTERS + letter - LETTER_AHEAD;
                }
            }
        }

        void append(int fourBytes) {
            for (int shift = 24; shift >= 0 && many < MOST_BYTES; shift -= 8) {
                bytes[many] = (byte) (fourBytes >> shift);
                many++;
            }
        }

        /** The first n bytes are read from now on; the tape is empty for what is fed next. */
        void open(int n) {
            end = Math.min(n, many);
            many = 0;
            at = 0;
            fault = 0;
            faultPlace = NONE;
            advance();
        }

        void advance() {
            while (at < end && (bytes[at] == ' ' || bytes[at] == '\n')) {
                at++;
            }
            start = at;
            if (at >= end) {
                kind = AT_END;
            } else if (isLetter(bytes[at])) {
                lookAtWord();
            } else if (isFigure(bytes[at])) {
                lookAtNumber();
            } else {
                lookAtSign();
            }
        }

        private static boolean isLetter(int sign) {
            return sign >= 'a' && sign <= 'z';
        }

        private static boolean isFigure(int sign) {
            return sign >= '0' && sign <= '9';
        }

        private void lookAtWord() {
            long letters = 0;
            while (at < end && bytes[at] >= 'a' && bytes[at] <= 'z') {
                letters = at - start < MOST_LETTERS ? letters * LETTERS + bytes[at] - LETTER_AHEAD : 0;
                at++;
            }
            kind = WORD;
            name = letters;
            value = NONE;
            for (int word = 0; word < MANY_WORDS; word++) {
                if (setWords[word] == letters) {
                    value = word;
                }
            }
        }

        private void lookAtNumber() {
            value = 0;
            while (at < end && bytes[at] >= '0' && bytes[at] <= '9') {
                value = at - start < MOST_FIGURES ? value * 10 + (bytes[at] - '0') : value;
                at++;
            }
            kind = at - start <= MOST_FIGURES ? NUMBER : NO_TOKEN;
        }

        private void lookAtSign() {
            value = bytes[at];
            boolean isSign = value == ';' || value == '<' || value == '>' || value == '=';
            kind = isSign ? SIGN : NO_TOKEN;
            at++;
        }

        /** The set word that is looked at, NONE for all else. */
        int setWord() {
            return kind == WORD ? value : NONE;
        }

        boolean isName() {
            return kind == WORD && value == NONE && name != 0;
        }

        boolean refuseToken(int why) {
            fault = why;
            faultPlace = start;
            return false;
        }

        boolean refuseUnfit() {
            return refuseToken(kind == NO_TOKEN ? FAULT_NO_TOKEN : FAULT_NOT_THERE);
        }

        boolean takeWord(int word) {
            if (setWord() != word) {
                return refuseUnfit();
            }
            advance();
            return true;
        }

        boolean takeNumber(int least, int most) {
            if (kind != NUMBER) {
                return refuseUnfit();
            }
            if (!within(value, least, most)) {
                return refuseToken(FAULT_NUMBER);
            }
            taken = value;
            advance();
            return true;
        }

        boolean takeEndOfPart() {
            if (kind != SIGN || value != ';') {
                return refuseUnfit();
            }
            advance();
            return true;
        }

        /** A NAME of an ACCOUNT: the number taken is its first CELL. */
        boolean takeName(Book of) {
            if (!isName()) {
                return refuseUnfit();
            }
            int account = of.accountNamed(name);
            if (account == NONE) {
                return refuseToken(FAULT_NAME);
            }
            taken = account * of.wide;
            advance();
            return true;
        }
    }

    /** Reads a text as a BOOK. Its methods answer whether there was no FAULT. */
    private static final class BookReader {
        private final Tape tape;
        /** The set of those words that may be told once and were. */
        private int told;

        BookReader(Tape from) {
            tape = from;
        }

        boolean fill(Book into, int n) {
            told = 0;
            into.empty();
            tape.open(n);
            for (int parts = 0; parts < Tape.MOST_BYTES && tape.kind != Tape.AT_END; parts++) {
                if (!takePart(into)) {
                    return false;
                }
            }
            System.arraycopy(into.digits, 0, into.truths, 0, MOST_CELLS);
            return true;
        }

        private boolean takePart(Book into) {
            switch (tape.setWord()) {
                case WORD_WIDE:
                    return takeWide(into);
                case WORD_TAP:
                    return takeTap(into);
                case WORD_ODDS:
                    return takeOdds(into);
                case WORD_ACCOUNT:
                    return takeAccount(into);
                case WORD_LAW:
                    return takeLaw(into);
                case WORD_WATCH:
                    return takeWatch(into);
                default:
                    return tape.refuseUnfit();
            }
        }

        private boolean takeWordOnce(int word) {
            if ((told >> word & 1) != 0) {
                return tape.refuseToken(FAULT_TOLD_ALREADY);
            }
            told |= 1 << word;
            return tape.takeWord(word);
        }

        private boolean takeWide(Book into) {
            if (into.accounts > 0) {
                return tape.refuseToken(FAULT_TOLD_ALREADY);
            }
            if (!takeWordOnce(WORD_WIDE) || !tape.takeNumber(1, MOST_WIDE)) {
                return false;
            }
            into.wide = tape.taken;
            return tape.takeEndOfPart();
        }

        private boolean takeTap(Book into) {
            if (!takeWordOnce(WORD_TAP) || !tape.takeNumber(1, MOST_TAP)) {
                return false;
            }
            into.tapHours = tape.taken;
            return tape.takeEndOfPart();
        }

        private boolean takeOdds(Book into) {
            if (!takeWordOnce(WORD_ODDS) || !tape.takeNumber(0, MOST_ODDS)) {
                return false;
            }
            into.odds = tape.taken;
            return tape.takeEndOfPart();
        }

        private boolean takeAccount(Book into) {
            int account = into.accounts;
            if (account >= MOST_ACCOUNTS) {
                return tape.refuseToken(FAULT_ONE_TOO_MANY);
            }
            tape.advance();
            if (!tape.isName()) {
                return tape.refuseUnfit();
            }
            if (into.accountNamed(tape.name) != NONE) {
                return tape.refuseToken(FAULT_NAME);
            }
            into.names[account] = tape.name;
            tape.advance();
            int word = tape.setWord();
            if (word != WORD_DEBIT && word != WORD_CREDIT) {
                return tape.refuseUnfit();
            }
            into.kinds[account] = word == WORD_DEBIT ? 0 : 1;
            tape.advance();
            into.accounts++;
            return takeDigits(into, account * into.wide) && tape.takeEndOfPart();
        }

        private boolean takeDigits(Book into, int firstCell) {
            // One DIGIT more than WIDE is looked at, to tell what is wrong with it.
            for (int place = 0; place <= into.wide && tape.kind == Tape.NUMBER; place++) {
                if (tape.value > 9) {
                    return tape.refuseToken(FAULT_NUMBER);
                }
                if (place == into.wide) {
                    return tape.refuseToken(FAULT_ONE_TOO_MANY);
                }
                into.digits[firstCell + place] = tape.value;
                tape.advance();
            }
            return true;
        }

        private boolean takeLaw(Book into) {
            if (into.laws.count >= MOST_LAWS) {
                return tape.refuseToken(FAULT_ONE_TOO_MANY);
            }
            tape.advance();
            if (!tape.takeNumber(0, 9)) {
                return false;
            }
            int first = tape.taken;
            if (!tape.takeWord(WORD_BECOMES) || !tape.takeNumber(0, 9)) {
                return false;
            }
            int second = tape.taken;
            int place = 0;
            int beside = 0;
            if (within(tape.setWord(), WORD_LEFT, WORD_BELOW)) {
                place = tape.value - WORD_LEFT + 1;
                tape.advance();
                if (!tape.takeNumber(0, 9)) {
                    return false;
                }
                beside = tape.taken;
            }
            into.laws.add(first, second, place, beside);
            return tape.takeEndOfPart();
        }

        private boolean takeWatch(Book into) {
            if (!takeWordOnce(WORD_WATCH) || !tape.takeName(into)) {
                return false;
            }
            int first = tape.taken;
            if (!tape.takeNumber(0, into.wide - 1)) {
                return false;
            }
            into.stand = first + tape.taken;
            return tape.takeEndOfPart();
        }
    }

    /** The NIGHTS: ORDERS and ends in a row. What an ORDER is, is its word's number; a when's is its TEST's. */
    private static final class Nights {
        static final int MOST_BYTES = 300;
        static final int MOST_ORDERS = 30;
        static final int MOST_ITEMS = 60;

        boolean areThere;
        int orders;
        int items;
        final int[] words = new int[MOST_ITEMS];
        /** The way, the HOURS, how often, or the NUMBER that a TEST compares with. */
        final int[] numbers = new int[MOST_ITEMS];
        final int[] cells = new int[MOST_ITEMS];
        final int[] compares = new int[MOST_ITEMS];
        /** Of a when, a loop its end, and of an end what it ends. */
        final int[] partners = new int[MOST_ITEMS];

        void empty() {
            areThere = false;
            orders = 0;
            items = 0;
        }

        void takeFrom(Nights other) {
            areThere = other.areThere;
            orders = other.orders;
            items = other.items;
            System.arraycopy(other.words, 0, words, 0, MOST_ITEMS);
            System.arraycopy(other.numbers, 0, numbers, 0, MOST_ITEMS);
            System.arraycopy(other.cells, 0, cells, 0, MOST_ITEMS);
            System.arraycopy(other.compares, 0, compares, 0, MOST_ITEMS);
            System.arraycopy(other.partners, 0, partners, 0, MOST_ITEMS);
        }

        /** Another item, all its numbers 0: its place in the row. */
        int addItem(int word) {
            if (items >= MOST_ITEMS) {
                return MOST_ITEMS - 1;
            }
            int item = items;
            words[item] = word;
            numbers[item] = 0;
            cells[item] = 0;
            compares[item] = 0;
            partners[item] = item;
            items++;
            return item;
        }
    }

    /** Reads a text as NIGHTS for a BOOK. Its methods answer whether there was no FAULT. */
    private static final class NightsReader {
        private static final int MOST_OPEN = 3;

        private final Tape tape;
        private final int[] opened = new int[MOST_OPEN];
        private int open;

        NightsReader(Tape from) {
            tape = from;
        }

        boolean fill(Nights into, Book of, int n) {
            open = 0;
            into.empty();
            tape.open(n);
            for (int items = 0; items < Nights.MOST_BYTES && tape.kind != Tape.AT_END; items++) {
                boolean fine = tape.setWord() == WORD_END ? takeEnd(into) : takeOrder(into, of);
                if (!fine) {
                    return false;
                }
            }
            if (open > 0) {
                return tape.refuseUnfit();
            }
            into.areThere = true;
            return true;
        }

        private boolean takeEnd(Nights into) {
            if (open <= 0) {
                return tape.refuseUnfit();
            }
            tape.advance();
            open--;
            int item = into.addItem(WORD_END);
            into.partners[item] = opened[open];
            into.partners[opened[open]] = item;
            return tape.takeEndOfPart();
        }

        private static boolean beginsOrder(int word) {
            return word == WORD_STEP || within(word, WORD_DOZE, WORD_WHEN) || word == WORD_LOOP || word == WORD_STOP;
        }

        private boolean takeOrder(Nights into, Book of) {
            int word = tape.setWord();
            if (!beginsOrder(word)) {
                return tape.refuseUnfit();
            }
            if (into.orders >= Nights.MOST_ORDERS) {
                return tape.refuseToken(FAULT_ONE_TOO_MANY);
            }
            boolean opens = word == WORD_WHEN || word == WORD_LOOP;
            if (opens && open >= MOST_OPEN) {
                return tape.refuseToken(FAULT_TOO_DEEP);
            }
            into.orders++;
            int item = into.addItem(word);
            if (opens) {
                opened[open] = item;
                open++;
            }
            tape.advance();
            boolean fine = word == WORD_WHEN ? takeTest(into, of, item) : takeRest(into, of, item);
            return fine && tape.takeEndOfPart();
        }

        /** What stands behind the word of any ORDER but a when. */
        private boolean takeRest(Nights into, Book of, int item) {
            switch (into.words[item]) {
                case WORD_STEP:
                    return takeWay(into, item);
                case WORD_DOZE:
                    return takeNumberInto(into, item, 1, 24);
                case WORD_LOOP:
                    return takeNumberInto(into, item, 1, 99);
                case WORD_MEND:
                case WORD_STEAL:
                    return takeCellInto(into, of, item);
                default:
                    return true;
            }
        }

        private boolean takeNumberInto(Nights into, int item, int least, int most) {
            if (!tape.takeNumber(least, most)) {
                return false;
            }
            into.numbers[item] = tape.taken;
            return true;
        }

        private boolean takeCellInto(Nights into, Book of, int item) {
            if (!tape.takeName(of)) {
                return false;
            }
            int first = tape.taken;
            if (!tape.takeNumber(0, of.wide - 1)) {
                return false;
            }
            into.cells[item] = first + tape.taken;
            return true;
        }

        private static int wayNamed(int word) {
            switch (word) {
                case WORD_UP:
                    return UP;
                case WORD_DOWN:
                    return DOWN;
                case WORD_LEFT:
                    return LEFT;
                case WORD_RIGHT:
                    return RIGHT;
                case WORD_STAY:
                    return STAY;
                default:
                    return NONE;
            }
        }

        private boolean takeWay(Nights into, int item) {
            int way = wayNamed(tape.setWord());
            if (way == NONE) {
                return tape.refuseUnfit();
            }
            into.numbers[item] = way;
            tape.advance();
            return true;
        }

        private boolean takeTest(Nights into, Book of, int item) {
            int word = tape.setWord();
            if (!within(word, WORD_WRONG, WORD_EVEN)) {
                return tape.refuseUnfit();
            }
            into.words[item] = word;
            tape.advance();
            if (word == WORD_EVEN) {
                return true;
            }
            if (word == WORD_DIGIT && !takeCellInto(into, of, item)) {
                return false;
            }
            return takeCompares(into, item) && takeNumberInto(into, item, 0, word == WORD_DIGIT ? 9 : 99);
        }

        private boolean takeCompares(Nights into, int item) {
            if (tape.kind != Tape.SIGN || tape.value == ';') {
                return tape.refuseUnfit();
            }
            into.compares[item] = tape.value;
            tape.advance();
            return true;
        }
    }

    /** NIGHTS that are lived by a seed, and what is told of them. */
    private static final class Life {
        private static final int MOST_DONE = 300;
        /** Far above what 300 ORDERS can need: at most 99 ends each, and some that close others. */
        private static final int MOST_TURNS_OF_LOOP = 1000000;

        boolean hasBeen;
        int done;
        int missed;
        int hours;
        int steps;
        int stolen;
        int left;
        private int drawn;
        private final int[] turnsLeft = new int[Nights.MOST_ITEMS];

        void goThrough(Book book, Nights nights, int seed) {
            hasBeen = true;
            done = 0;
            missed = 0;
            hours = 0;
            steps = 0;
            stolen = 0;
            left = 0;
            drawn = seed;
            int at = 0;
            for (int i = 0; i < MOST_TURNS_OF_LOOP && within(at, 0, nights.items - 1); i++) {
                if (nights.words[at] == WORD_END) {
                    at = behindEnd(nights, at);
                } else if (done >= MOST_DONE) {
                    left = 1;
                    return;
                } else {
                    done++;
                    at = behindOrder(book, nights, at);
                }
            }
        }

        private int behindEnd(Nights nights, int at) {
            int begin = nights.partners[at];
            if (nights.words[begin] != WORD_LOOP) {
                return at + 1;
            }
            turnsLeft[begin]--;
            return turnsLeft[begin] > 0 ? begin + 1 : at + 1;
        }

        /** Does an ORDER: where it goes on. */
        private int behindOrder(Book book, Nights nights, int at) {
            int number = nights.numbers[at];
            switch (nights.words[at]) {
                case WORD_STEP:
                    goOneWay(book, number);
                    return at + 1;
                case WORD_DOZE:
                    sleepFor(book, number);
                    return at + 1;
                case WORD_MEND:
                    mendCell(book, nights.cells[at]);
                    return at + 1;
                case WORD_STEAL:
                    stealFrom(book, nights.cells[at]);
                    return at + 1;
                case WORD_ANY:
                    if (book.accounts == 0) {
                        missed++;
                    } else if (drawBy(16) < book.odds) {
                        sleepFor(book, 1);
                    } else {
                        goOneWay(book, drawBy(5));
                    }
                    return at + 1;
                case WORD_LOOP:
                    turnsLeft[at] = number;
                    return at + 1;
                case WORD_STOP:
                    return nights.items;
                default:
                    return testHolds(book, nights, at) ? at + 1 : nights.partners[at] + 1;
            }
        }

        private void goOneWay(Book book, int way) {
            int to = book.gone(book.stand, way);
            if (to == NONE || book.hour >= LAST_HOUR) {
                missed++;
                return;
            }
            book.standAndTap(to);
            book.passHours(1);
            hours++;
            steps++;
        }

        private void sleepFor(Book book, int many) {
            if (book.hour + many > LAST_HOUR) {
                missed++;
                return;
            }
            book.passHours(many);
            hours += many;
        }

        private void mendCell(Book book, int c) {
            if (!book.hasCell(c) || !book.isWrong(c)) {
                missed++;
                return;
            }
            book.putDigit(c, book.truths[c]);
        }

        private void stealFrom(Book book, int c) {
            if (!book.hasCell(c) || book.digits[c] == 0) {
                missed++;
                return;
            }
            stolen += book.takeAway(c);
        }

        private int drawBy(int n) {
            drawn = (drawn * 2971 + 10853) % 65536;
            return n > 0 ? drawn / 8 % n : 0;
        }

        private static boolean testHolds(Book book, Nights nights, int at) {
            switch (nights.words[at]) {
                case WORD_WRONG:
                    return compare(book.wrongs(), nights.compares[at], nights.numbers[at]);
                case WORD_DIGIT:
                    return compare(book.digits[nights.cells[at]], nights.compares[at], nights.numbers[at]);
                default:
                    return book.surplus() == 0;
            }
        }

        private static boolean compare(int one, int sign, int other) {
            if (sign == '<') {
                return one < other;
            }
            return sign == '>' ? one > other : one == other;
        }
    }

    /** Seeks the ROUND through all STEPS, the first ones first. Row d of its tables is how it is behind d STEPS. */
    private static final class Rounds {
        int fewest;
        final int[] best = new int[MOST_STEPS];
        private int mostStays;
        private int set;
        private int steps;
        private final int[] tried = new int[MOST_STEPS];
        private final int[][] digits = new int[MOST_STEPS + 1][MOST_CELLS];
        private final int[][] taps = new int[MOST_STEPS + 1][MOST_CELLS];
        private final int[][] untapped = new int[MOST_STEPS + 1][MOST_CELLS];

        void seek(Book book, int cells, int n) {
            set = cells;
            steps = Math.min(n, MOST_STEPS);
            fewest = MOST_CELLS + 1;
            mostStays = 0;
            System.arraycopy(book.digits, 0, digits[0], 0, MOST_CELLS);
            System.arraycopy(book.taps, 0, taps[0], 0, MOST_CELLS);
            tryStep(book, 0, book.stand, 0);
        }

        private void tryStep(Book book, int depth, int stand, int stays) {
            if (depth >= steps) {
                weigh(book, stays);
                return;
            }
            // A TAP keeps its own CELL alone, so one DRIFT serves for all ways.
            book.drift(digits[depth], taps[depth], untapped[depth]);
            for (int way = UP; way <= STAY; way++) {
                int to = book.gone(stand, way);
                if (to != NONE) {
                    tried[depth] = way;
                    tapAndPass(book, depth, to);
                    tryStep(book, depth + 1, to, way == STAY ? stays + 1 : stays);
                }
            }
        }

        private void tapAndPass(Book book, int depth, int to) {
            int[] nextDigits = digits[depth + 1];
            int[] nextTaps = taps[depth + 1];
            System.arraycopy(untapped[depth], 0, nextDigits, 0, MOST_CELLS);
            nextDigits[to] = digits[depth][to];
            for (int c = 0; c < book.cells(); c++) {
                nextTaps[c] = Math.max(taps[depth][c] - 1, 0);
            }
            nextTaps[to] = book.tapHours - 1;
        }

        private void weigh(Book book, int stays) {
            int wrong = 0;
            for (int c = 0; c < book.cells(); c++) {
                if ((set >> c & 1) != 0 && digits[steps][c] != book.truths[c]) {
                    wrong++;
                }
            }
            if (wrong < fewest || wrong == fewest && stays > mostStays) {
                fewest = wrong;
                mostStays = stays;
                System.arraycopy(tried, 0, best, 0, steps);
            }
        }
    }

    /**
     * PAST rows of an ACCOUNT, place by place: for each pair of a DIGIT and that left of it, how many beginnings
     * of rows end so, and the least of them as a number. The last ones of a pair's table are those without a left.
     */
    private static final class Pasts {
        private static final int NO_LEFT = 10;
        private static final int MANY_PAIRS = 110;

        int rowsInAll;
        int leastSum;
        private final int[] row = new int[MOST_CELLS];
        private int[] counts = new int[MANY_PAIRS];
        private int[] leasts = new int[MANY_PAIRS];
        private int[] nextCounts = new int[MANY_PAIRS];
        private int[] nextLeasts = new int[MANY_PAIRS];

        void gather(Book book, int account) {
            System.arraycopy(book.digits, 0, row, 0, MOST_CELLS);
            rowsInAll = 0;
            leastSum = NONE;
            Arrays.fill(counts, 0);
            for (int digit = 0; digit <= 9; digit++) {
                counts[NO_LEFT * 10 + digit] = 1;
                leasts[NO_LEFT * 10 + digit] = digit;
            }
            int first = account * book.wide;
            for (int place = 0; place < book.wide - 1; place++) {
                Arrays.fill(nextCounts, 0);
                for (int pair = 0; pair < MANY_PAIRS; pair++) {
                    goOn(book, first + place, pair);
                }
                swapTables();
            }
            for (int pair = 0; pair < MANY_PAIRS; pair++) {
                finish(book, first + book.wide - 1, pair);
            }
        }

        private void swapTables() {
            int[] oldCounts = counts;
            counts = nextCounts;
            nextCounts = oldCounts;
            int[] oldLeasts = leasts;
            leasts = nextLeasts;
            nextLeasts = oldLeasts;
        }

        private void setPair(int c, int pair) {
            int left = pair / 10;
            if (left != NO_LEFT && c > 0) {
                row[c - 1] = left;
            }
            row[c] = pair % 10;
        }

        private void goOn(Book book, int c, int pair) {
            if (counts[pair] == 0) {
                return;
            }
            setPair(c, pair);
            for (int right = 0; right <= 9; right++) {
                row[c + 1] = right;
                if (book.drifted(row, c) == book.digits[c]) {
                    int next = pair % 10 * 10 + right;
                    int least = leasts[pair] * 10 + right;
                    nextLeasts[next] = nextCounts[next] == 0 ? least : Math.min(nextLeasts[next], least);
                    nextCounts[next] += counts[pair];
                }
            }
        }

        private void finish(Book book, int c, int pair) {
            if (counts[pair] == 0) {
                return;
            }
            setPair(c, pair);
            if (book.drifted(row, c) == book.digits[c]) {
                leastSum = rowsInAll == 0 ? leasts[pair] : Math.min(leastSum, leasts[pair]);
                rowsInAll += counts[pair];
            }
        }

        /** Whether the one row that has a SUM is a PAST one. */
        boolean couldHaveBeen(Book book, int account, int sum) {
            if (sum >= TENS[book.wide]) {
                return false;
            }
            System.arraycopy(book.digits, 0, row, 0, MOST_CELLS);
            int first = account * book.wide;
            int rest = sum;
            for (int place = book.wide - 1; place >= 0; place--) {
                row[first + place] = rest % 10;
                rest /= 10;
            }
            for (int place = 0; place < book.wide; place++) {
                if (book.drifted(row, first + place) != book.digits[first + place]) {
                    return false;
                }
            }
            return true;
        }
    }

    /** The GAME of thief and watch; what is stolen in it is a set of CELLS. */
    private static final class Games {
        private static boolean canSteal(Book book, int c, int stand, int gone) {
            return (gone >> c & 1) == 0 && book.digits[c] != 0 && book.stepsBetween(stand, c) >= 2;
        }

        /** How much the thief gets in so many turns, it being his. */
        private static int loot(Book book, int turns, int stand, int gone) {
            if (turns <= 0 || turns > MOST_TURNS) {
                return 0;
            }
            int most = lootBehindStep(book, turns - 1, stand, gone);
            for (int c = 0; c < book.cells(); c++) {
                if (canSteal(book, c, stand, gone)) {
                    most = Math.max(most, book.digits[c] + lootBehindStep(book, turns - 1, stand, gone | 1 << c));
                }
            }
            return most;
        }

        private static int lootBehindStep(Book book, int turns, int stand, int gone) {
            if (turns <= 0) {
                return 0;
            }
            int least = loot(book, turns, stand, gone);
            for (int way = UP; way < STAY; way++) {
                int to = book.gone(stand, way);
                if (to != NONE) {
                    least = Math.min(least, loot(book, turns, to, gone));
                }
            }
            return least;
        }

        /** The first CELL that is as good as any, NONE if only stealing from none is. */
        static int firstTheft(Book book, int turns) {
            int most = loot(book, turns, book.stand, 0);
            for (int c = 0; c < book.cells(); c++) {
                if (canSteal(book, c, book.stand, 0)
                        && book.digits[c] + lootBehindStep(book, turns - 1, book.stand, 1 << c) == most) {
                    return c;
                }
            }
            return NONE;
        }
    }
}
