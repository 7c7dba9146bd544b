/** Promises 29 to 54, sentence by sentence: HOURS ahead, rounds, what stood there, games, odds, NIGHTS, MARKS. */
public final class EdgesOfAskingTest {
    private static final Check CHECK = new Check();
    private static final Doc DOC = new Doc(CHECK);
    private static final String CYCLE = "wide 1;account a debit 1;account b credit 4;law 1 becomes 2;law 2 becomes 3;"
            + "law 3 becomes 1;";
    private static final String MOST = "wide 5;account a debit 1 1 1 1 1;account b debit 1 1 1 1 1;account c debit 1 1 1 1 1;"
            + "account d debit 1 1 1 1 1;account e debit 1 1 1 1 1;law 1 becomes 2;tap 1;";

    // BOOKS found by a search, in which something comes about very late: it can be asked for in HOUR 300 and 301.
    /** CELL 4 is WRONG first in HOUR 600. */
    private static final String WRONG_LATE = "wide 5;account a debit 0 0 5 4 5;account b debit 1 5 0 3 0;"
            + "account c debit 0 1 5 4 2;account d debit 0 4 2 2 5;account e debit 1 2 3 3 5;law 4 becomes 0 left 0;"
            + "law 5 becomes 4 left 2;law 0 becomes 2;law 3 becomes 5 left 2;law 0 becomes 1 right 3;"
            + "law 5 becomes 3 below 4;law 2 becomes 1;law 4 becomes 5 right 2;law 1 becomes 0 above 1;"
            + "law 1 becomes 3 left 1;";
    /** It is EVEN in HOUR 485, and ahead of it not behind HOUR 184. */
    private static final String EVEN_LATE = "wide 5;account a credit 1 1 2 1 4;account b debit 2 2 1 0 1;"
            + "account c debit 2 1 2 0 3;account d credit 0 0 2 1 2;account e debit 1 4 2 0 0;law 1 becomes 0 below 0;"
            + "law 0 becomes 1 left 0;law 1 becomes 4 above 2;law 4 becomes 3;law 1 becomes 2;law 2 becomes 4 right 3;"
            + "law 2 becomes 4 below 1;law 3 becomes 0;law 2 becomes 1 above 1;law 0 becomes 1 right 3;";
    /** It is still from HOUR 2,999 on. */
    private static final String STILL_LATE = "wide 5;account a debit 1 0 2 3 1;account b debit 1 1 3 0 2;"
            + "account c debit 2 2 2 3 2;account d debit 0 0 1 0 1;account e debit 3 1 0 0 0;law 2 becomes 3 right 0;"
            + "law 2 becomes 1 left 2;law 3 becomes 0 left 1;law 2 becomes 1 above 1;law 2 becomes 0 below 0;"
            + "law 1 becomes 1 below 3;law 1 becomes 0;law 2 becomes 0 right 0;law 0 becomes 2;law 3 becomes 1 right 0;";

    public static void main(String[] args) {
        digitIn();
        wrongIn();
        wrongBy();
        evenIn();
        stillIn();
        bears();
        round();
        roundAt();
        far();
        past();
        likelyAndLeast();
        mayAndTheft();
        told();
        rubbed();
        game();
        moveOf();
        dozes();
        shame();
        live();
        lived();
        mean();
        mark();
        back();
        DOC.endOfPromises(29, 54);
        CHECK.end("EdgesOfAskingTest");
    }

    private static void digitIn() {
        DOC.promise(29, "DIGIT of a CELL in so many HOURS (0 to 300) (2; 5).");
        SumsNightwatch x = Check.withBook(CYCLE);
        CHECK.call(x, "0: now", x.digitIn(0, 0), 1, 0);
        CHECK.call(x, "1", x.digitIn(0, 1), 2, 0);
        CHECK.call(x, "299", x.digitIn(0, 299), 3, 0);
        CHECK.call(x, "300", x.digitIn(0, 300), 1, 0);
        CHECK.call(x, "the last cell", x.digitIn(1, 300), 4, 0);
        CHECK.refused(x, "301", x.digitIn(0, 301), 5);
        CHECK.refused(x, "-1", x.digitIn(0, -1), 5);
        CHECK.refused(x, "behind the last", x.digitIn(2, 301), 2);
        CHECK.refused(x, "ahead of the first", x.digitIn(-1, 0), 2);
        CHECK.same("nothing goes by", x.many(5) * 100 + Check.digits(x), 14);
    }

    private static void wrongIn() {
        DOC.promise(30, "How many CELLS are WRONG in so many HOURS (0 to 300) (5).");
        SumsNightwatch x = Check.withBook(CYCLE);
        CHECK.call(x, "0: now", x.wrongIn(0), 0, 0);
        CHECK.call(x, "1", x.wrongIn(1), 1, 0);
        CHECK.call(x, "299", x.wrongIn(299), 1, 0);
        CHECK.call(x, "300", x.wrongIn(300), 0, 0);
        CHECK.refused(x, "301", x.wrongIn(301), 5);
        CHECK.refused(x, "-1", x.wrongIn(-1), 5);
        SumsNightwatch all = Check.withBook(MOST);
        CHECK.call(all, "25", all.wrongIn(300), 25, 0);
        all.book(0);
        CHECK.call(all, "no cells", all.wrongIn(300), 0, 0);
    }

    private static void wrongBy() {
        DOC.promise(31, "In how many HOURS (0 to 300) a CELL is WRONG first (2; 8: in none).");
        SumsNightwatch x = Check.withBook(CYCLE);
        CHECK.call(x, "1", x.wrongBy(0), 1, 0);
        CHECK.refused(x, "in none", x.wrongBy(1), 8);
        x.scratch(1, 5);
        CHECK.call(x, "now", x.wrongBy(1), 0, 0);
        x.scratch(0, 2);
        CHECK.call(x, "now, though it will be right", x.wrongBy(0), 0, 0);
        CHECK.refused(x, "no such", x.wrongBy(2), 2);
        CHECK.refused(x, "no such", x.wrongBy(-1), 2);
        SumsNightwatch late = Check.withBook(WRONG_LATE);
        Check.dozeTo(late, 299);
        CHECK.refused(late, "in 301", late.wrongBy(4), 8);
        late.doze(1);
        CHECK.call(late, "in 300", late.wrongBy(4), 300, 0);
        Check.dozeTo(late, 599);
        CHECK.call(late, "in 1", late.wrongBy(4), 1, 0);
    }

    private static void evenIn() {
        DOC.promise(32, "In how many HOURS (0 to 300) the BOOK is EVEN first (8: in none).");
        SumsNightwatch x = Check.withBook(CYCLE);
        CHECK.refused(x, "in none", x.evenIn(), 8);
        x.enact(4, 2, 0, 0);
        // 1 and 4, 2 and 2.
        CHECK.call(x, "1", x.evenIn(), 1, 0);
        x.doze(1);
        CHECK.call(x, "now", x.evenIn(), 0, 0);
        x.book(0);
        CHECK.call(x, "no accounts: now", x.evenIn(), 0, 0);
        SumsNightwatch late = Check.withBook(EVEN_LATE);
        Check.dozeTo(late, 184);
        CHECK.refused(late, "in 301", late.evenIn(), 8);
        late.doze(1);
        CHECK.call(late, "in 300", late.evenIn(), 300, 0);
    }

    private static void stillIn() {
        DOC.promise(33, "In how many HOURS (0 to 300) an HOUR goes by first in which nothing drifts to another DIGIT (8: none"
                + " does).");
        SumsNightwatch x = Check.withBook("wide 1;account a debit 1;law 1 becomes 2;law 2 becomes 3;law 3 becomes 3;");
        CHECK.call(x, "the third hour", x.stillIn(), 2, 0);
        x.doze(2);
        CHECK.call(x, "to the same digit is to no other", x.stillIn(), 0, 0);
        x.book(0);
        CHECK.call(x, "no cells", x.stillIn(), 0, 0);
        SumsNightwatch y = Check.withBook(CYCLE);
        CHECK.refused(y, "none does", y.stillIn(), 8);
        y.step(4);
        CHECK.call(y, "nothing drifts, as it is tapped", y.stillIn(), 0, 0);
        SumsNightwatch late = Check.withBook(STILL_LATE);
        Check.dozeTo(late, 2698);
        CHECK.refused(late, "in 301", late.stillIn(), 8);
        late.doze(1);
        CHECK.call(late, "in 300", late.stillIn(), 300, 0);
    }

    private static void bears() {
        DOC.promise(34, "The LAW that bears on a CELL now (2; 8: none).");
        SumsNightwatch x = Check.withBook("wide 2;account a debit 1 2;law 1 becomes 3 right 1;law 1 becomes 4 right 2;"
                + "law 1 becomes 5;");
        CHECK.call(x, "the second, the first that does", x.bears(0), 1, 0);
        CHECK.refused(x, "none", x.bears(1), 8);
        x.enact(2, 2, 0, 0);
        CHECK.call(x, "the last, be it to the same", x.bears(1), 3, 0);
        for (int i = 4; i < 9; i++) {
            x.enact(8, 8, 0, 0);
        }
        x.enact(7, 7, 0, 0);
        x.scratch(1, 7);
        CHECK.call(x, "the tenth", x.bears(1), 9, 0);
        CHECK.call(x, "the always one", x.bears(0), 2, 0);
        CHECK.refused(x, "no such", x.bears(2), 2);
        CHECK.refused(x, "no such", x.bears(-1), 2);
    }

    private static void round() {
        DOC.promise(35, "ROUND: how many of the set are WRONG in the end (5; 8: no ACCOUNTS).");
        SumsNightwatch x = Check.withBook(MOST);
        int all = (1 << 25) - 1;
        CHECK.call(x, "all, 1 step", x.round(all, 1), 24, 0);
        CHECK.call(x, "all, 5 steps", x.round(all, 5), 24, 0);
        CHECK.call(x, "none", x.round(0, 5), 0, 0);
        CHECK.call(x, "where he is", x.round(1, 5), 0, 0);
        CHECK.call(x, "the last", x.round(1 << 24, 5), 1, 0);
        CHECK.refused(x, "a 26th", x.round(1 << 25, 1), 5);
        CHECK.refused(x, "all and a 26th", x.round((1 << 26) - 1, 1), 5);
        CHECK.refused(x, "-1", x.round(-1, 1), 5);
        CHECK.refused(x, "the 32nd bit", x.round(Integer.MIN_VALUE, 1), 5);
        CHECK.refused(x, "0 steps", x.round(all, 0), 5);
        CHECK.refused(x, "6 steps", x.round(all, 6), 5);
        CHECK.same("nothing was done", x.many(5) + x.watch() + x.many(7) + x.many(8), 0);
        SumsNightwatch one = Check.withBook("wide 1;account a debit 1;law 1 becomes 2;");
        CHECK.call(one, "one cell", one.round(1, 5), 0, 0);
        CHECK.refused(one, "a second", one.round(2, 5), 5);
        one.scratch(0, 7);
        CHECK.call(one, "wrong already", one.round(1, 1), 1, 0);
        one.book(0);
        CHECK.refused(one, "no accounts", one.round(0, 1), 8);
        CHECK.refused(one, "no accounts, so no such set", one.round(1, 1), 5);
    }

    private static void roundAt() {
        DOC.promise(36, "ROUND: the k-th STEP (0 on) (5: k, too; 8).");
        SumsNightwatch x = Check.withBook("wide 3;tap 9;account a debit 1 1 1;law 1 becomes 2 left 2;law 1 becomes 3 right 9;"
                + "law 2 becomes 2;watch a 1;");
        for (int n = 1; n <= 5; n++) {
            for (int k = 0; k < n; k++) {
                CHECK.call(x, "step " + k + " of " + n, x.roundAt(7, n, k), 4, 0);
            }
            CHECK.refused(x, "k is n", x.roundAt(7, n, n), 5);
            CHECK.refused(x, "k is -1", x.roundAt(7, n, -1), 5);
        }
        CHECK.refused(x, "n is 6", x.roundAt(7, 6, 0), 5);
        CHECK.refused(x, "n is 6, k is 5", x.roundAt(7, 6, 5), 5);
        CHECK.refused(x, "n is 0", x.roundAt(7, 0, 0), 5);
        CHECK.refused(x, "a fourth cell", x.roundAt(8, 1, 0), 5);
        CHECK.refused(x, "-1", x.roundAt(-1, 1, 0), 5);
        // CELL 3 is 9 behind four HOURS, and CELL 4 drifts in the fifth: he keeps CELL 3 from it, and stays then.
        SumsNightwatch far = Check.withBook("wide 5;tap 9;account a debit 6 7 8 5 1;law 1 becomes 0 left 9;law 5 becomes 6;"
                + "law 6 becomes 7;law 7 becomes 8;law 8 becomes 9;");
        int[] due = {3, 3, 3, 4, 4};
        CHECK.call(far, "kept", far.round(16, 5), 0, 0);
        for (int k = 0; k < 5; k++) {
            CHECK.call(far, "step " + k, far.roundAt(16, 5, k), due[k], 0);
        }
        CHECK.call(far, "of four", far.round(16, 4), 0, 0);
        x.book(0);
        CHECK.refused(x, "no accounts", x.roundAt(0, 1, 0), 8);
        CHECK.refused(x, "no accounts, k is n", x.roundAt(0, 1, 1), 5);
    }

    private static void far() {
        DOC.promise(37, "The fewest STEPS that bring the WATCHMAN to a CELL (2).");
        SumsNightwatch x = Check.withBook(MOST);
        for (int c = 0; c < 25; c++) {
            CHECK.call(x, "from the first to " + c, x.far(c), c / 5 + c % 5, 0);
        }
        for (int i = 0; i < 4; i++) {
            x.step(1);
            x.step(3);
        }
        for (int c = 0; c < 25; c++) {
            CHECK.call(x, "from the last to " + c, x.far(c), 8 - c / 5 - c % 5, 0);
        }
        CHECK.refused(x, "no such", x.far(25), 2);
        CHECK.refused(x, "no such", x.far(-1), 2);
        x.book(0);
        CHECK.refused(x, "no cells", x.far(0), 2);
    }

    private static void past() {
        DOC.promise(38, "PAST: how many rows (2).");
        SumsNightwatch x = Check.withBook("wide 3;account a debit 1 2 3;account b debit;");
        CHECK.call(x, "its own", x.past(0), 1, 0);
        x.enact(1, 9, 0, 0);
        CHECK.call(x, "none", x.past(0), 0, 0);
        CHECK.call(x, "the last account", x.past(1), 1, 0);
        CHECK.refused(x, "no such", x.past(2), 2);
        CHECK.refused(x, "no such", x.past(-1), 2);
        // 0 0 0 from a row of 0 and 1, but no 1 has a 1 to its left.
        SumsNightwatch y = Check.withBook("wide 5;account a debit;law 1 becomes 5 left 1;law 1 becomes 0;");
        CHECK.call(y, "rows of 5 without two 1 side by side", y.past(0), 13, 0);
        SumsNightwatch z = Check.withBook("wide 5;account a debit;law 1 becomes 5 right 1;law 1 becomes 0;");
        CHECK.call(z, "likewise to the right", z.past(0), 13, 0);
        y.book(0);
        CHECK.refused(y, "no accounts", y.past(0), 2);
    }

    private static void likelyAndLeast() {
        DOC.promise(39, "LIKELY: how many rows with a SUM (2; 5: below 0).");
        SumsNightwatch x = Check.withBook("wide 5;account a debit;account b debit 9 9 9 9 9;law 9 becomes 0 above 0;");
        CHECK.call(x, "0", x.likely(0, 0), 1, 0);
        CHECK.call(x, "99,999 has nothing above it", x.likely(0, 99999), 0, 0);
        CHECK.call(x, "99,999 of the last, which would be 0", x.likely(1, 99999), 0, 0);
        x.enact(8, 0, 0, 0);
        CHECK.call(x, "88,888", x.likely(0, 88888), 1, 0);
        CHECK.call(x, "8", x.likely(0, 8), 1, 0);
        CHECK.call(x, "80,000", x.likely(0, 80000), 1, 0);
        CHECK.call(x, "no row has it", x.likely(0, 100000), 0, 0);
        CHECK.call(x, "nor this", x.likely(0, Integer.MAX_VALUE), 0, 0);
        CHECK.refused(x, "-1", x.likely(0, -1), 5);
        CHECK.refused(x, "no such", x.likely(2, -1), 2);
        CHECK.refused(x, "no such", x.likely(-1, 0), 2);
        DOC.promise(40, "The least SUM of a PAST row (2; 8: no row).");
        SumsNightwatch y = Check.withBook("wide 3;account a debit 5 5 5;account b debit 0 0 1;law 2 becomes 5;law 7 becomes 5;");
        CHECK.call(y, "222 of 27", y.leastPast(0), 222, 0);
        CHECK.call(y, "1", y.leastPast(1), 1, 0);
        y.enact(1, 0, 0, 0);
        CHECK.refused(y, "no row", y.leastPast(1), 8);
        y.scratch(5, 0);
        CHECK.call(y, "0", y.leastPast(1), 0, 0);
        CHECK.refused(y, "no such", y.leastPast(2), 2);
        CHECK.refused(y, "no such", y.leastPast(-1), 2);
        SumsNightwatch most = Check.withBook("wide 5;account a debit 9 9 9 9 9;");
        CHECK.call(most, "the greatest least", most.leastPast(0), 99999, 0);
    }

    private static void mayAndTheft() {
        DOC.promise(41, "MAY: a set of DIGITS (1 for DIGIT 0 ..) (5: 0 to 9).");
        SumsNightwatch x = Check.withBook("account a debit 9 0;law 0 becomes 9;");
        CHECK.call(x, "0", x.may(0), 1 | 512, 0);
        CHECK.call(x, "9", x.may(9), 512, 0);
        CHECK.refused(x, "10", x.may(10), 5);
        CHECK.refused(x, "-1", x.may(-1), 5);
        DOC.promise(42, "THEFT: a set of CELLS.");
        CHECK.call(x, "none", x.theft(), 0, 0);
        x.scratch(0, 0);
        x.scratch(1, 9);
        CHECK.call(x, "0 can become 9, but 9 not 0", x.theft(), 1, 0);
        x.book(0);
        CHECK.call(x, "no cells", x.theft(), 0, 0);
    }

    private static void told() {
        DOC.promise(43, "The CELL of which SUMS tell (8: of none).");
        SumsNightwatch x = Check.withBook(MOST);
        CHECK.refused(x, "of none", x.told(), 8);
        for (int c : new int[] {0, 4, 5, 12, 20, 24}) {
            x.scratch(c, 0);
            CHECK.call(x, "cell " + c, x.told(), c, 0);
            x.mend(c);
        }
        x.scratch(0, 0);
        x.scratch(24, 0);
        CHECK.refused(x, "of two, so of none", x.told(), 8);
        x.book(0);
        CHECK.refused(x, "no cells", x.told(), 8);
    }

    private static void rubbed() {
        DOC.promise(44, "RUBBED: how many (8: not by 2).");
        SumsNightwatch x = Check.withBook("wide 3;account a debit;");
        for (int many = 0; many < 3; many++) {
            CHECK.call(x, "rubbed", x.rubbed(), many, 0);
            x.scratch(many, 9);
        }
        CHECK.refused(x, "not by 2", x.rubbed(), 8);
        DOC.promise(45, "RUBBED: the set (8).");
        CHECK.refused(x, "none", x.rubbedSet(), 8);
        x.scratch(1, 0);
        CHECK.call(x, "0 and 2", x.rubbedSet(), 5, 0);
        x.scratch(0, 0);
        CHECK.call(x, "2", x.rubbedSet(), 4, 0);
        x.scratch(2, 0);
        CHECK.call(x, "even", x.rubbedSet(), 0, 0);
        CHECK.same("nothing is rubbed", x.many(9), 0);
        // The last two of 25 are the only ones that are not 0, and all are debits.
        SumsNightwatch last = Check.withBook("wide 5;account a debit;account b debit;account c debit;account d debit;"
                + "account e debit 0 0 0 3 3;");
        CHECK.call(last, "2", last.rubbed(), 2, 0);
        CHECK.call(last, "the last two", last.rubbedSet(), 3 << 23, 0);
        x.book(0);
        CHECK.call(x, "no accounts: even", x.rubbedSet(), 0, 0);
    }

    private static void game() {
        DOC.promise(46, "GAME (5; 8: no ACCOUNTS).");
        SumsNightwatch x = Check.withBook("wide 5;account a debit 0 0 0 0 9;account b debit;account c debit;account d debit;"
                + "account e debit 9 0 0 0 9;");
        CHECK.call(x, "0", x.game(0), 0, 0);
        CHECK.call(x, "1", x.game(1), 9, 0);
        CHECK.call(x, "2", x.game(2), 18, 0);
        CHECK.refused(x, "3", x.game(3), 5);
        CHECK.refused(x, "-1", x.game(-1), 5);
        CHECK.same("nothing is stolen", x.many(9) + x.many(7) + x.watch(), 0);
        x.book(0);
        CHECK.refused(x, "no accounts", x.game(0), 8);
        CHECK.refused(x, "no accounts", x.game(2), 8);
        CHECK.refused(x, "no accounts, 3", x.game(3), 5);
    }

    private static void moveOf() {
        DOC.promise(47, "MOVE: the CELL (5: turns 0, too; 8: none, no ACCOUNTS).");
        SumsNightwatch x = Check.withBook("wide 3;account a debit 5 5 5;");
        CHECK.call(x, "1", x.moveOf(1), 2, 0);
        CHECK.call(x, "2", x.moveOf(2), 2, 0);
        CHECK.refused(x, "0", x.moveOf(0), 5);
        CHECK.refused(x, "3", x.moveOf(3), 5);
        CHECK.refused(x, "-1", x.moveOf(-1), 5);
        x.step(3);
        CHECK.refused(x, "none", x.moveOf(1), 8);
        // In the first turn all are too near, and he stays where he is.
        CHECK.refused(x, "none", x.moveOf(2), 8);
        x.book(0);
        CHECK.refused(x, "no accounts", x.moveOf(1), 8);
        CHECK.refused(x, "no accounts, 0", x.moveOf(0), 5);
    }

    private static void dozes() {
        DOC.promise(48, "The FRACTION is DOZES of k (0 to 12) of n HOURS (0 to 12) (5).");
        SumsNightwatch x = Check.withBook("odds 8;");
        long[][] due = {{0, 0, 1, 1}, {0, 12, 0, 1}, {12, 0, 1, 1}, {12, 12, 1, 4096}, {12, 11, 13, 4096}, {11, 12, 0, 1},
            {1, 1, 1, 2}, {2, 1, 3, 4}, {12, 6, 2510, 4096}};
        for (long[] d : due) {
            CHECK.call(x, "dozes " + d[0] + " " + d[1], x.dozes((int) d[0], (int) d[1]), true, 0);
            CHECK.same("dozes " + d[0] + " " + d[1] + ", as a whole", x.top() * d[3], x.bottom() * d[2]);
        }
        CHECK.fraction(x, "without a common divisor", 1255, 2048);
        CHECK.refused(x, "n 13", x.dozes(13, 12), 5);
        CHECK.refused(x, "n -1", x.dozes(-1, 0), 5);
        CHECK.refused(x, "k 13", x.dozes(12, 13), 5);
        CHECK.refused(x, "k -1", x.dozes(12, -1), 5);
        CHECK.fraction(x, "as it was", 1255, 2048);
    }

    private static void shame() {
        DOC.promise(49, "The FRACTION is the part of all CELLS that are WRONG (8: no CELLS).");
        SumsNightwatch x = Check.withBook(MOST);
        CHECK.call(x, "none", x.shame(), true, 0);
        CHECK.fraction(x, "none", 0, 1);
        x.scratch(24, 0);
        CHECK.call(x, "one", x.shame(), true, 0);
        CHECK.fraction(x, "one", 1, 25);
        x.doze(1);
        CHECK.call(x, "all", x.shame(), true, 0);
        CHECK.fraction(x, "all", 1, 1);
        x.mend(0);
        x.shame();
        CHECK.fraction(x, "24", 24, 25);
        x.book(0);
        CHECK.refused(x, "no cells", x.shame(), 8);
        CHECK.fraction(x, "as it was", 24, 25);
        SumsNightwatch one = Check.withBook("wide 1;account a debit;");
        CHECK.call(one, "one cell", one.shame(), true, 0);
        CHECK.fraction(one, "one cell", 0, 1);
    }

    private static void live() {
        DOC.promise(50, "LIVED: how many ORDERS were done (5; 8: no NIGHTS).");
        SumsNightwatch x = Check.withBook("account a debit 1;");
        CHECK.refused(x, "no nights", x.live(0), 8);
        CHECK.refused(x, "no nights, no seed", x.live(-1), 5);
        Check.nights(x, "doze 1;stop;doze 1;");
        CHECK.call(x, "stop is the last", x.live(0), 2, 0);
        CHECK.call(x, "9,999", x.live(9999), 2, 0);
        CHECK.refused(x, "10,000", x.live(10000), 5);
        CHECK.refused(x, "-1", x.live(-1), 5);
        CHECK.same("hour", x.many(5), 2);
        Check.nights(x, "loop 99;loop 99;end;end;loop 99;loop 99;end;end;");
        CHECK.call(x, "200", x.live(0), 200, 0);
        Check.nights(x, "loop 99;loop 99;end;loop 99;end;loop 99;end;end;any;any;any;");
        CHECK.call(x, "300", x.live(0), 300, 0);
        x.book(0);
        CHECK.refused(x, "no nights any more", x.live(0), 8);
    }

    private static void lived() {
        DOC.promise(51, "Of live() latest with STATUS 0, what 0: MISSED, 1: HOURS, 2: how many STEPS he made, 3: how much was"
                + " stolen, 4: 1 if an ORDER was left to be done, else 0 (5; 8: there was none).");
        SumsNightwatch x = Check.withBook("wide 2;account a debit 5 9;");
        CHECK.refused(x, "there was none", x.lived(0), 8);
        CHECK.refused(x, "there was none, no such", x.lived(5), 5);
        CHECK.refused(x, "there was none, no such", x.lived(-1), 5);
        CHECK.refused(x, "no nights", x.live(0), 8);
        CHECK.refused(x, "with 8 there was none", x.lived(0), 8);
        x.steal(0);
        Check.nights(x, "step right;doze 24;step right;steal a 1;steal a 0;step left;");
        CHECK.lives(x, 0, 6, 2, 26, 2, 9, 0);
        CHECK.same("stolen ahead of it is not asked", x.many(9), 14);
        CHECK.refused(x, "5", x.live(10000), 5);
        CHECK.call(x, "of the latest with 0", x.lived(1), 26, 0);
        CHECK.refused(x, "no such", x.lived(5), 5);
        CHECK.refused(x, "no such", x.lived(-1), 5);
        x.mean(0, 2);
        CHECK.call(x, "mean lives none", x.lived(3), 9, 0);
        CHECK.lives(x, 0, 6, 3, 26, 2, 0, 0);
        Check.nights(x, "loop 99;any;any;any;end;any;any;any;");
        x.rule(4, 16);
        CHECK.lives(x, 0, 300, 0, 299, 0, 0, 1);
        Check.nights(x, "stop;any;");
        CHECK.lives(x, 0, 1, 0, 0, 0, 0, 0);
    }

    private static void mean() {
        DOC.promise(52, "The FRACTION is the mean of how many CELLS are WRONG behind the NIGHTS, by so many seeds (1 to 20) from"
                + " one on (all stays as it is)");
        SumsNightwatch x = Check.withNights("wide 1;odds 8;account a debit 1;account b credit 1;law 1 becomes 2;", "any;");
        int sum = 0;
        int[] wrong = new int[10000];
        for (int seed = 0; seed < 20; seed++) {
            wrong[seed] = wrongBehind(x, seed);
            wrong[9980 + seed] = wrongBehind(x, 9980 + seed);
        }
        for (int many = 1; many <= 20; many++) {
            sum += wrong[many - 1];
            CHECK.call(x, "from 0 on, " + many, x.mean(0, many), true, 0);
            CHECK.same("from 0 on, " + many, x.top() * many, x.bottom() * sum);
        }
        int last = 0;
        for (int seed = 9999; seed >= 9980; seed--) {
            last += wrong[seed];
            int many = 10000 - seed;
            CHECK.call(x, "up to 9,999, " + many, x.mean(seed, many), true, 0);
            CHECK.same("up to 9,999, " + many, x.top() * many, x.bottom() * last);
        }
        CHECK.same("all stays", x.many(5) + x.many(7) + x.many(8) + x.watch(), 0);
        DOC.promise(52, "(5: the last above 9,999, too; 8).");
        CHECK.refused(x, "0", x.mean(0, 0), 5);
        CHECK.refused(x, "21", x.mean(0, 21), 5);
        CHECK.refused(x, "-1", x.mean(-1, 1), 5);
        CHECK.refused(x, "10,000", x.mean(10000, 1), 5);
        CHECK.refused(x, "9,999 and one more", x.mean(9999, 2), 5);
        CHECK.refused(x, "9,981 and 19 more", x.mean(9981, 20), 5);
        CHECK.refused(x, "beyond what an int has", x.mean(Integer.MAX_VALUE, 20), 5);
        x.book(0);
        CHECK.refused(x, "no nights", x.mean(0, 1), 8);
        CHECK.refused(x, "no nights, no seeds", x.mean(0, 0), 5);
    }

    private static int wrongBehind(SumsNightwatch x, int seed) {
        x.mark();
        x.live(seed);
        int wrong = x.many(7);
        x.back();
        return wrong;
    }

    private static void mark() {
        DOC.promise(53, "A MARK more: how many there are (7).");
        SumsNightwatch x = Check.withBook("account a debit 1;");
        for (int i = 1; i <= 3; i++) {
            CHECK.call(x, "mark", x.mark(), i, 0);
            x.doze(1);
        }
        CHECK.refused(x, "a fourth", x.mark(), 7);
        x.book(0);
        CHECK.refused(x, "a fourth, of another book", x.mark(), 7);
        x.back();
        CHECK.same("the third is that of then", x.many(5), 2);
        CHECK.call(x, "a third again", x.mark(), 3, 0);
    }

    private static void back() {
        DOC.promise(54, "All is taken back to the latest MARK: how many there are left (8).");
        SumsNightwatch x = Check.withBook("account a debit 1;");
        CHECK.refused(x, "none", x.back(), 8);
        for (int i = 0; i < 3; i++) {
            x.mark();
            x.doze(1);
        }
        for (int left = 2; left >= 0; left--) {
            CHECK.call(x, "back", x.back(), left, 0);
            CHECK.same("hour", x.many(5), left);
        }
        CHECK.refused(x, "none is left", x.back(), 8);
        CHECK.call(x, "one again", x.mark(), 1, 0);
        Check.book(x, "wide 5;account z credit 5;");
        CHECK.call(x, "another book's is still there", x.back(), 0, 0);
        CHECK.same("sum", x.account(0, 1), 100);
        // TRAYS, the tape and what fault(), top(), lived() tell are no part of the BOOK.
        Check.nights(x, "doze 2;");
        x.mark();
        x.tray(0, 0, 1);
        x.write(0, 0, 7);
        x.live(0);
        x.shame();
        Check.book(x, "!");
        Check.feed(x, "tap 9;");
        x.back();
        CHECK.call(x, "the tray stays", x.read(0, 0), 7, 0);
        CHECK.call(x, "what was lived stays", x.lived(1), 2, 0);
        CHECK.fault(x, "the fault stays", 1, 0);
        CHECK.same("hour", x.many(5), 0);
        CHECK.call(x, "the tape stays", x.book(20), 0, 0);
        CHECK.same("tap", x.many(3), 9);
    }
}
