/** Promises 29 to 49: HOURS ahead, rounds, what stood there, games, odds. */
public final class SeekingTest {
    private static final Check CHECK = new Check();
    private static final String CYCLE = "wide 1;account a debit 1;account b credit 4;law 1 becomes 2;law 2 becomes 3;"
            + "law 3 becomes 1;";

    public static void main(String[] args) {
        digitAndWrongIn();
        wrongBy();
        evenIn();
        stillIn();
        bears();
        round();
        roundWithTaps();
        roundAt();
        far();
        past();
        pastBeside();
        mayAndTheft();
        told();
        rubbed();
        game();
        dozes();
        shame();
        CHECK.end("SeekingTest");
    }

    private static void digitAndWrongIn() {
        CHECK.part("promises 29, 30");
        SumsNightwatch x = Check.withBook(CYCLE);
        int[] due = {1, 2, 3, 1, 2};
        for (int h = 0; h < 5; h++) {
            CHECK.call(x, "digitIn " + h, x.digitIn(0, h), due[h], 0);
            CHECK.call(x, "wrongIn " + h, x.wrongIn(h), h % 3 == 0 ? 0 : 1, 0);
        }
        CHECK.call(x, "300", x.digitIn(0, 300), 1, 0);
        CHECK.call(x, "299", x.digitIn(0, 299), 3, 0);
        CHECK.call(x, "299", x.wrongIn(299), 1, 0);
        CHECK.call(x, "300", x.wrongIn(300), 0, 0);
        CHECK.same("nothing went by", x.many(5), 0);
        CHECK.same("nothing drifted", x.cell(0, 0), 1);
        CHECK.refused(x, "301", x.digitIn(0, 301), 5);
        CHECK.refused(x, "-1", x.digitIn(0, -1), 5);
        CHECK.refused(x, "cell first", x.digitIn(2, 301), 2);
        CHECK.refused(x, "cell -1", x.digitIn(-1, 0), 2);
        CHECK.refused(x, "301", x.wrongIn(301), 5);
        CHECK.refused(x, "-1", x.wrongIn(-1), 5);
        // What is TAPPED now is so as long as the TAP lasts.
        x.rule(3, 4);
        x.step(4);
        int[] tapped = {1, 1, 1, 1, 2, 3, 1};
        for (int h = 0; h < tapped.length; h++) {
            CHECK.call(x, "tapped, digitIn " + h, x.digitIn(0, h), tapped[h], 0);
        }
        CHECK.same("the tap is as it was", x.cell(0, 2), 3);
        SumsNightwatch none = new SumsNightwatch();
        CHECK.call(none, "no accounts", none.wrongIn(300), 0, 0);
    }

    private static void wrongBy() {
        CHECK.part("promise 31");
        SumsNightwatch x = Check.withBook(TraysAndTellingTest.BOOK);
        CHECK.call(x, "in 1", x.wrongBy(1), 1, 0);
        CHECK.call(x, "in 2", x.wrongBy(2), 2, 0);
        CHECK.refused(x, "in none", x.wrongBy(0), 8);
        x.scratch(0, 5);
        CHECK.call(x, "now", x.wrongBy(0), 0, 0);
        CHECK.refused(x, "cell 9", x.wrongBy(9), 2);
        CHECK.refused(x, "cell -1", x.wrongBy(-1), 2);
        SumsNightwatch y = Check.withBook("wide 1;tap 9;account a debit 1;law 1 becomes 2;");
        y.step(4);
        CHECK.call(y, "tapped for 8 hours more", y.wrongBy(0), 9, 0);
    }

    private static void evenIn() {
        CHECK.part("promise 32");
        SumsNightwatch x = Check.withBook(CYCLE);
        CHECK.refused(x, "in none", x.evenIn(), 8);
        x.scratch(1, 3);
        // 1 against 3, 2 against 1, 3 against 2, and so on.
        CHECK.refused(x, "in none", x.evenIn(), 8);
        x.scratch(1, 1);
        CHECK.call(x, "now", x.evenIn(), 0, 0);
        SumsNightwatch y = Check.withBook("wide 2;account a debit 1 1;account b credit 1 4;law 1 becomes 2 left 1;"
                + "law 2 becomes 3;law 3 becomes 4;");
        CHECK.call(y, "11, 12, 13, 14", y.evenIn(), 3, 0);
        CHECK.same("nothing went by", y.many(5) + y.wrongIn(0), 0);
        SumsNightwatch none = new SumsNightwatch();
        CHECK.call(none, "no accounts", none.evenIn(), 0, 0);
    }

    private static void stillIn() {
        CHECK.part("promise 33");
        SumsNightwatch x = Check.withBook(TraysAndTellingTest.BOOK);
        CHECK.call(x, "in 3", x.stillIn(), 3, 0);
        x.doze(1);
        CHECK.call(x, "in 2", x.stillIn(), 2, 0);
        SumsNightwatch y = Check.withBook(CYCLE);
        CHECK.refused(y, "never", y.stillIn(), 8);
        y.step(4);
        CHECK.call(y, "tapped: nothing drifts in the first hour", y.stillIn(), 0, 0);
        y.doze(1);
        CHECK.refused(y, "never again", y.stillIn(), 8);
        SumsNightwatch same = Check.withBook("wide 1;account a debit 1;law 1 becomes 1;");
        CHECK.call(same, "to no other digit", same.stillIn(), 0, 0);
        SumsNightwatch none = new SumsNightwatch();
        CHECK.call(none, "no accounts", none.stillIn(), 0, 0);
    }

    private static void bears() {
        CHECK.part("promise 34");
        SumsNightwatch x = Check.withBook(TraysAndTellingTest.BOOK);
        CHECK.call(x, "right 0", x.bears(1), 0, 0);
        CHECK.call(x, "always", x.bears(4), 2, 0);
        CHECK.call(x, "above 9", x.bears(7), 3, 0);
        CHECK.refused(x, "left is 7, not 1", x.bears(2), 8);
        x.enact(9, 9, 0, 0);
        CHECK.call(x, "the first", x.bears(4), 2, 0);
        x.step(2);
        CHECK.call(x, "tapped or not", x.bears(4), 2, 0);
        CHECK.refused(x, "cell 9", x.bears(9), 2);
        CHECK.refused(x, "cell -1", x.bears(-1), 2);
    }

    private static void round() {
        CHECK.part("promise 35");
        SumsNightwatch x = Check.withBook("wide 3;tap 1;account a debit 1 1 1;law 1 becomes 2;watch a 1;");
        CHECK.call(x, "all, 1", x.round(7, 1), 2, 0);
        CHECK.call(x, "the left, 1", x.round(1, 1), 0, 0);
        CHECK.call(x, "the left, 2", x.round(1, 2), 0, 0);
        CHECK.call(x, "both ends, 2", x.round(5, 2), 1, 0);
        CHECK.call(x, "none of them, 5", x.round(0, 5), 0, 0);
        CHECK.call(x, "all, 5", x.round(7, 5), 2, 0);
        CHECK.refused(x, "a cell that is none", x.round(8, 1), 5);
        CHECK.refused(x, "below 0", x.round(-1, 1), 5);
        CHECK.refused(x, "0 steps", x.round(7, 0), 5);
        CHECK.refused(x, "6 steps", x.round(7, 6), 5);
        CHECK.same("nothing was done", x.many(5) * 100 + x.many(8) * 10 + x.watch(), 1);
        // Only the right one would drift, and is kept by going there and staying.
        SumsNightwatch y = Check.withBook("wide 2;tap 2;account a debit 1 1;law 1 becomes 2 left 1;law 2 becomes 3;");
        CHECK.call(y, "to the right", y.round(3, 1), 0, 0);
        CHECK.call(y, "and there", y.round(3, 5), 0, 0);
        SumsNightwatch none = new SumsNightwatch();
        CHECK.refused(none, "no accounts", none.round(0, 1), 8);
        CHECK.refused(none, "no accounts, a set", none.round(1, 1), 5);
        CHECK.refused(none, "no accounts, no steps", none.round(0, 0), 5);
        // A CELL that is TAPPED now is kept for as long as that lasts.
        SumsNightwatch z = Check.withBook("wide 3;tap 9;account a debit 1 0 1;law 1 becomes 2;");
        z.step(4);
        z.mend(2);
        z.rule(3, 1);
        CHECK.call(z, "tapped now", z.round(1, 5), 0, 0);
        SumsNightwatch most = Check.withBook("wide 5;account a debit;account b debit;account c debit;"
                + "account d debit;account e debit;law 0 becomes 1;watch c 2;");
        CHECK.call(most, "25 cells", most.round((1 << 25) - 1, 1), 24, 0);
        CHECK.refused(most, "a 26th", most.round(1 << 25, 1), 5);
    }

    private static void roundWithTaps() {
        CHECK.part("promises 35, 36: taps");
        String line = "wide 3;account a debit 1 1 1;law 1 becomes 2;watch a 1;";
        SumsNightwatch x = Check.withBook(line);
        x.rule(3, 3);
        ways(x, 2, 444, 3);
        x.step(2);
        x.mend(1);
        x.mend(2);
        // CELL 0 is kept for two HOURS more, and he may go to the middle at once.
        CHECK.call(x, "0 and 1, 2 steps", x.round(3, 2), 0, 0);
        ways(x, 3, 34, 2);
        CHECK.call(x, "0 and 1, 3 steps", x.round(3, 3), 0, 0);
        // To the middle, which is kept for three HOURS, and back ahead of the third one.
        ways(x, 3, 324, 3);
        x.rule(3, 2);
        // To and fro, each is tapped again just ahead of the HOUR in which it would drift.
        CHECK.call(x, "tap 2, 3 steps", x.round(3, 3), 0, 0);
        x.rule(3, 1);
        CHECK.call(x, "tap 1, 2 steps", x.round(3, 2), 0, 0);
        CHECK.call(x, "tap 1, 3 steps", x.round(3, 3), 1, 0);
        SumsNightwatch wide = Check.withBook("wide 5;tap 1;account a debit 1 1 1 1 1;account b debit 1 1 1 1 1;"
                + "account c debit 1 1 1 1 1;account d debit 1 1 1 1 1;account e debit 1 1 1 1 1;law 1 becomes 2;");
        CHECK.call(wide, "24 of 25 by staying", wide.round((1 << 25) - 1, 5), 24, 0);
        wide.rule(3, 9);
        CHECK.call(wide, "all but one", wide.round((1 << 25) - 1, 5), 24, 0);
        ways(wide, (1 << 25) - 1, 44444, 5);
        wide.enact(2, 1, 0, 0);
        // Four HOURS bring each back to 1, and the one where he stays never left it.
        CHECK.call(wide, "to and fro", wide.round((1 << 25) - 1, 4), 0, 0);
        ways(wide, (1 << 25) - 1, 4444, 4);
    }

    private static void ways(SumsNightwatch x, int set, int due, int n) {
        int got = 0;
        for (int k = 0; k < n; k++) {
            got = got * 10 + x.roundAt(set, n, k);
            CHECK.same("status", x.status(), 0);
        }
        CHECK.same("round of " + set + " by " + n, got, due);
    }

    private static void roundAt() {
        CHECK.part("promise 36");
        SumsNightwatch x = Check.withBook("wide 3;tap 1;account a debit 1 1 1;law 1 becomes 2;watch a 1;");
        ways(x, 0, 44444, 5);
        ways(x, 7, 4, 1);
        ways(x, 1, 2, 1);
        ways(x, 4, 3, 1);
        ways(x, 1, 24, 2);
        ways(x, 1, 244, 3);
        ways(x, 5, 24, 2);
        x.rule(3, 2);
        // A TAP of two HOURS: back to the middle it was not kept, so he stays where he went.
        ways(x, 4, 34, 2);
        SumsNightwatch y = Check.withBook("wide 2;tap 2;account a debit 1 1;account b debit 1 1;law 1 becomes 2;");
        // The first hour keeps one CELL alone; then he stays the most.
        ways(y, 8, 44, 2);
        ways(y, 4, 14, 2);
        SumsNightwatch later = Check.withBook("wide 3;tap 2;account a debit 5 1 4;law 1 becomes 2 left 2;law 5 becomes 2;"
                + "watch a 2;");
        // 5 becomes 2 in the first HOUR, the middle in the second one: left and stay, or stay and left, keeps it.
        ways(later, 2, 24, 2);
        CHECK.refused(x, "k is n", x.roundAt(7, 2, 2), 5);
        CHECK.refused(x, "k below 0", x.roundAt(7, 2, -1), 5);
        CHECK.refused(x, "a cell that is none", x.roundAt(8, 2, 0), 5);
        CHECK.refused(x, "6 steps", x.roundAt(7, 6, 5), 5);
        CHECK.refused(x, "far beyond", x.roundAt(7, Integer.MAX_VALUE, 9), 5);
        SumsNightwatch none = new SumsNightwatch();
        CHECK.refused(none, "no accounts", none.roundAt(0, 1, 0), 8);
        CHECK.refused(none, "no accounts, k", none.roundAt(0, 1, 1), 5);
    }

    private static void far() {
        CHECK.part("promise 37");
        SumsNightwatch x = Check.withBook(TraysAndTellingTest.BOOK);
        int[] due = {3, 2, 1, 2, 1, 0, 3, 2, 1};
        for (int c = 0; c < 9; c++) {
            CHECK.call(x, "far " + c, x.far(c), due[c], 0);
        }
        CHECK.refused(x, "cell 9", x.far(9), 2);
        CHECK.refused(x, "cell -1", x.far(-1), 2);
    }

    private static void past() {
        CHECK.part("promises 38, 39, 40");
        SumsNightwatch x = Check.withBook("wide 2;account a debit 1 1;account b credit 0 2;law 2 becomes 1;");
        CHECK.call(x, "11, 12, 21, 22", x.past(0), 4, 0);
        CHECK.call(x, "least", x.leastPast(0), 11, 0);
        for (int sum : new int[] {11, 12, 21, 22}) {
            CHECK.call(x, "likely " + sum, x.likely(0, sum), 1, 0);
        }
        for (int sum : new int[] {0, 1, 10, 13, 23, 99, 100, 111, Integer.MAX_VALUE}) {
            CHECK.call(x, "likely " + sum, x.likely(0, sum), 0, 0);
        }
        CHECK.call(x, "2 can't have been", x.past(1), 0, 0);
        CHECK.refused(x, "no row", x.leastPast(1), 8);
        CHECK.call(x, "none", x.likely(1, 2), 0, 0);
        x.step(4);
        CHECK.call(x, "a tap now is not asked", x.past(0), 4, 0);
        CHECK.refused(x, "account 2", x.past(2), 2);
        CHECK.refused(x, "account -1", x.past(-1), 2);
        CHECK.refused(x, "account 2", x.leastPast(2), 2);
        CHECK.refused(x, "account first", x.likely(2, -1), 2);
        CHECK.refused(x, "below 0", x.likely(0, -1), 5);
        SumsNightwatch all = Check.withBook("wide 5;account a debit;" + toNought());
        CHECK.call(all, "all rows", all.past(0), 100000, 0);
        CHECK.call(all, "least", all.leastPast(0), 0, 0);
        CHECK.call(all, "likely", all.likely(0, 99999), 1, 0);
        CHECK.call(all, "no such row", all.likely(0, 100000), 0, 0);
    }

    private static String toNought() {
        StringBuilder all = new StringBuilder();
        for (int d = 0; d < 10; d++) {
            all.append("law ").append(d).append(" becomes 0;");
        }
        return all.toString();
    }

    private static void pastBeside() {
        CHECK.part("promises 38, 39, 40 with places");
        SumsNightwatch x = Check.withBook("wide 2;account a debit 1 1;law 2 becomes 1 right 2;");
        CHECK.call(x, "11 alone", x.past(0), 1, 0);
        x.enact(2, 1, 1, 2);
        // 22: both see a 2 beside them.
        CHECK.call(x, "11, 22", x.past(0), 2, 0);
        CHECK.call(x, "likely", x.likely(0, 22), 1, 0);
        SumsNightwatch y = Check.withBook("wide 1;account a debit 2;account b credit 1;account c debit 6;"
                + "law 5 becomes 1 above 2;law 3 becomes 1 below 6;law 1 becomes 7 below 9;law 2 becomes 8 above 1;");
        // The rows beside it are as they are now, whatever becomes of them.
        CHECK.call(y, "1, 3, 5", y.past(1), 3, 0);
        CHECK.call(y, "least", y.leastPast(1), 1, 0);
        CHECK.call(y, "the first has nothing above", y.past(0), 1, 0);
        CHECK.call(y, "itself", y.leastPast(0), 2, 0);
        SumsNightwatch five = Check.withBook("wide 5;account a debit 1 2 3 4 5;law 6 becomes 5 left 4;law 1 becomes 0 right 9;");
        CHECK.call(five, "12,345 and 12,346", five.past(0), 2, 0);
        CHECK.call(five, "likely", five.likely(0, 12346), 1, 0);
        CHECK.call(five, "not", five.likely(0, 12356), 0, 0);
        CHECK.call(five, "least", five.leastPast(0), 12345, 0);
        SumsNightwatch z = Check.withBook("wide 3;account a debit 0 0 5;law 5 becomes 4;law 9 becomes 5;");
        CHECK.call(z, "009", z.leastPast(0), 9, 0);
        CHECK.call(z, "only", z.past(0), 1, 0);
    }

    private static void mayAndTheft() {
        CHECK.part("promises 41, 42");
        SumsNightwatch x = Check.withBook("wide 3;account a debit 7 3 0;account b credit 1 9 2;"
                + "law 3 becomes 4;law 7 becomes 3 left 0;law 4 becomes 7;law 9 becomes 9;law 2 becomes 0;");
        CHECK.call(x, "7: 7, 3, 4", x.may(7), 1 << 7 | 1 << 3 | 1 << 4, 0);
        CHECK.call(x, "4", x.may(4), 1 << 7 | 1 << 3 | 1 << 4, 0);
        CHECK.call(x, "9", x.may(9), 1 << 9, 0);
        CHECK.call(x, "0", x.may(0), 1, 0);
        CHECK.call(x, "2", x.may(2), 5, 0);
        CHECK.refused(x, "10", x.may(10), 5);
        CHECK.refused(x, "-1", x.may(-1), 5);
        CHECK.call(x, "no theft", x.theft(), 0, 0);
        x.scratch(0, 4);
        x.scratch(5, 0);
        CHECK.call(x, "that may be drift", x.theft(), 0, 0);
        x.scratch(2, 2);
        x.scratch(3, 2);
        x.scratch(4, 0);
        CHECK.call(x, "these can't be", x.theft(), 4 | 8 | 16, 0);
        x.scratch(0, 9);
        x.scratch(1, 9);
        x.scratch(5, 9);
        CHECK.call(x, "none can", x.theft(), 63, 0);
        SumsNightwatch chain = Check.withBook("law 9 becomes 8;law 8 becomes 7;law 7 becomes 6;law 6 becomes 5;"
                + "law 5 becomes 4;law 4 becomes 3;law 3 becomes 2;law 2 becomes 1;law 1 becomes 0;");
        CHECK.call(chain, "all, down", chain.may(9), 1023, 0);
        SumsNightwatch back = Check.withBook("law 1 becomes 0;law 2 becomes 1;law 3 becomes 2;law 4 becomes 3;"
                + "law 5 becomes 4;law 6 becomes 5;law 7 becomes 6;law 8 becomes 7;law 9 becomes 8;");
        CHECK.call(back, "all, the laws the other way round", back.may(9), 1023, 0);
        CHECK.call(back, "some", back.may(2), 7, 0);
    }

    private static void told() {
        CHECK.part("promise 43");
        SumsNightwatch x = Check.withBook("wide 3;account a debit 1 2 3;account b credit 4 5 6;account c debit 7 8 9;");
        CHECK.refused(x, "nothing is wrong", x.told(), 8);
        x.scratch(5, 1);
        CHECK.call(x, "that cell", x.told(), 5, 0);
        x.scratch(3, 5);
        CHECK.refused(x, "two in a row", x.told(), 8);
        x.mend(3);
        x.scratch(2, 4);
        CHECK.refused(x, "two in a column", x.told(), 8);
        x.mend(2);
        x.mend(5);
        x.scratch(0, 2);
        x.scratch(1, 1);
        CHECK.refused(x, "a row that comes out", x.told(), 8);
        x.scratch(4, 6);
        // Row 0 and column 1 come out as they should: row 1 and column 0 do not, both by 1.
        CHECK.call(x, "a cell that is not wrong", x.told(), 3, 0);
        CHECK.same("it is not", x.cell(3, 3), 0);
        x.vouch(0);
        x.vouch(1);
        x.vouch(4);
        CHECK.refused(x, "vouched", x.told(), 8);
        x.scratch(0, 9);
        CHECK.call(x, "the first", x.told(), 0, 0);
        x.scratch(4, 9);
        CHECK.refused(x, "two rows, two columns", x.told(), 8);
        x.mend(4);
        x.scratch(8, 0);
        CHECK.refused(x, "the first and the last", x.told(), 8);
        x.mend(0);
        CHECK.call(x, "the last", x.told(), 8, 0);
    }

    private static void rubbed() {
        CHECK.part("promises 44, 45");
        SumsNightwatch even = Check.withBook("wide 1;account a debit 5;account b credit 5;");
        CHECK.call(even, "0", even.rubbed(), 0, 0);
        CHECK.call(even, "set", even.rubbedSet(), 0, 0);
        SumsNightwatch one = Check.withBook("wide 1;account a debit 5;account b credit 3;");
        CHECK.call(one, "1", one.rubbed(), 1, 0);
        CHECK.call(one, "the least set", one.rubbedSet(), 1, 0);
        // 20 against 3: only the 2 to 0 and 0 to 3, or to 0 and 3 to 0; the first two are the least.
        SumsNightwatch two = Check.withBook("wide 2;account a debit 2 0;account b credit 0 3;");
        CHECK.call(two, "2", two.rubbed(), 2, 0);
        CHECK.call(two, "set", two.rubbedSet(), 3, 0);
        // 0 against 12 (credits 6 and 6): the debit can be 9 at most, so with one credit: cells 0 and 1.
        SumsNightwatch low = Check.withBook("wide 1;account a debit 0;account b credit 6;account c credit 6;");
        CHECK.call(low, "0 and 1", low.rubbedSet(), 3, 0);
        // The debit, 9, is to be 9 less by credits 9, 9, 9: two of these to 0, not the debit with one.
        SumsNightwatch high = Check.withBook("wide 1;account a debit 9;account b credit 9;account c credit 9;account d credit 9;");
        CHECK.call(high, "2", high.rubbed(), 2, 0);
        CHECK.call(high, "1 and 2", high.rubbedSet(), 6, 0);
        SumsNightwatch no = Check.withBook("wide 3;account a debit 9 9 9;");
        CHECK.refused(no, "not by 2", no.rubbed(), 8);
        CHECK.refused(no, "not by 2", no.rubbedSet(), 8);
        no.scratch(1, 0);
        CHECK.call(no, "0 and 2", no.rubbedSet(), 5, 0);
        // 40,007 against 0: the 4 to 0 and the 7 to 0.
        SumsNightwatch wide = Check.withBook("wide 5;account a debit 4 0 0 0 7;account b credit;");
        CHECK.call(wide, "0 and 4", wide.rubbedSet(), 17, 0);
        wide.scratch(4, 0);
        CHECK.call(wide, "0", wide.rubbedSet(), 1, 0);
        wide.scratch(0, 0);
        wide.scratch(1, 3);
        CHECK.call(wide, "1", wide.rubbedSet(), 2, 0);
        // A CELL can get 9, but not 10.
        SumsNightwatch nine = Check.withBook("wide 1;account a debit 0;account b credit 9;");
        CHECK.call(nine, "9", nine.rubbedSet(), 1, 0);
        SumsNightwatch ten = Check.withBook("wide 1;account a debit 0;account b credit 5;account c credit 5;");
        CHECK.call(ten, "10", ten.rubbedSet(), 3, 0);
        // By 1, too.
        SumsNightwatch by = Check.withBook("wide 1;account a debit 4;account b credit 5;");
        CHECK.call(by, "4 to 5", by.rubbedSet(), 1, 0);
        // Of two CELLS both must change, up to 9: 0 0 against 18, and 19.
        SumsNightwatch both = Check.withBook("wide 1;account a debit;account b debit;account c credit 9;account d credit 9;");
        CHECK.call(both, "9 and 9", both.rubbedSet(), 3, 0);
        SumsNightwatch none = new SumsNightwatch();
        CHECK.call(none, "no accounts", none.rubbed(), 0, 0);
        CHECK.call(none, "no accounts", none.rubbedSet(), 0, 0);
    }

    private static void game() {
        CHECK.part("promises 46, 47");
        SumsNightwatch x = Check.withBook("wide 5;account a debit 9 0 0 3 9;watch a 2;");
        CHECK.call(x, "no turns", x.game(0), 0, 0);
        CHECK.call(x, "one turn", x.game(1), 9, 0);
        CHECK.call(x, "the first of two", x.moveOf(1), 0, 0);
        // From CELL 0 first, he goes to the right and guards 3 and 4; from CELL 4 first, he guards 0, but not 3.
        CHECK.call(x, "two turns", x.game(2), 12, 0);
        CHECK.call(x, "4 first", x.moveOf(2), 4, 0);
        CHECK.same("nothing was stolen", x.many(9) + x.many(7) + x.many(5), 0);
        CHECK.same("he did not go", x.watch(), 2);
        CHECK.refused(x, "3 turns", x.game(3), 5);
        CHECK.refused(x, "-1 turns", x.game(-1), 5);
        CHECK.refused(x, "move of none", x.moveOf(0), 5);
        CHECK.refused(x, "move of 3", x.moveOf(3), 5);
        SumsNightwatch ones = Check.withBook("wide 4;account a debit 2 2 1 1;");
        CHECK.call(ones, "1 is not nothing", ones.game(1), 1, 0);
        CHECK.call(ones, "the nearest of them", ones.moveOf(1), 2, 0);
        SumsNightwatch near = Check.withBook("wide 2;account a debit 9 9;");
        CHECK.call(near, "too near", near.game(2), 0, 0);
        CHECK.refused(near, "from none", near.moveOf(2), 8);
        SumsNightwatch corner = Check.withBook("wide 2;account a debit 9 8;account b credit 7 6;");
        CHECK.call(corner, "the far corner", corner.game(1), 6, 0);
        CHECK.call(corner, "its cell", corner.moveOf(1), 3, 0);
        CHECK.call(corner, "then he stays, and that corner is empty", corner.game(2), 6, 0);
        SumsNightwatch none = new SumsNightwatch();
        CHECK.refused(none, "no accounts", none.game(0), 8);
        CHECK.refused(none, "no accounts", none.moveOf(1), 8);
        CHECK.refused(none, "no accounts, no turns", none.moveOf(0), 5);
        CHECK.refused(none, "no accounts, 3 turns", none.game(3), 5);
    }

    private static void dozes() {
        CHECK.part("promise 48");
        SumsNightwatch x = new SumsNightwatch();
        CHECK.dozes(x, 0, 0, 1, 1);
        CHECK.dozes(x, 0, 1, 0, 1);
        CHECK.dozes(x, 1, 1, 1, 8);
        CHECK.dozes(x, 2, 1, 15, 64);
        CHECK.dozes(x, 2, 2, 1, 64);
        CHECK.dozes(x, 2, 3, 0, 1);
        CHECK.dozes(x, 12, 0, 1, 1);
        x.rule(4, 1);
        CHECK.dozes(x, 12, 12, 1, 1L << 48);
        CHECK.dozes(x, 12, 1, (1L << 48) - 129746337890625L, 1L << 48);
        x.rule(4, 8);
        CHECK.dozes(x, 4, 2, 11, 16);
        x.rule(4, 0);
        CHECK.dozes(x, 12, 1, 0, 1);
        CHECK.dozes(x, 12, 0, 1, 1);
        x.rule(4, 16);
        CHECK.dozes(x, 12, 12, 1, 1);
        CHECK.dozes(x, 11, 12, 0, 1);
        CHECK.refused(x, "n 13", x.dozes(13, 0), 5);
        CHECK.refused(x, "n -1", x.dozes(-1, 0), 5);
        CHECK.refused(x, "k 13", x.dozes(0, 13), 5);
        CHECK.refused(x, "k -1", x.dozes(0, -1), 5);
        CHECK.fraction(x, "as it was", 0, 1);
    }

    private static void shame() {
        CHECK.part("promise 49");
        SumsNightwatch x = Check.withBook(TraysAndTellingTest.BOOK);
        x.doze(1);
        CHECK.call(x, "shame", x.shame(), true, 0);
        CHECK.fraction(x, "3 of 9", 1, 3);
        x.book(0);
        CHECK.refused(x, "no cells", x.shame(), 8);
        CHECK.fraction(x, "as it was", 1, 3);
        SumsNightwatch single = Check.withBook("wide 1;account a debit 1;");
        CHECK.call(single, "one cell", single.shame(), true, 0);
        SumsNightwatch y = Check.withBook("wide 2;account a debit 1 1;law 1 becomes 2;");
        y.doze(1);
        y.shame();
        CHECK.fraction(y, "all", 1, 1);
    }
}
