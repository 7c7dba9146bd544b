/** Terms, parts ==== 2 and ==== 3: LAWS and HOURS, and what is asked of those ahead and behind. */
public final class EdgesOfHoursTest {
    private static final Check CHECK = new Check();
    private static final Doc DOC = new Doc(CHECK);
    private static final String[] PLACES = {"left", "right", "above", "below"};

    public static void main(String[] args) {
        lawBears();
        drift();
        step();
        doze();
        hour();
        wrongAndSum();
        even();
        mendAndSteal();
        DOC.endOfTerms(2);
        ahead();
        round();
        past();
        likely();
        may();
        theft();
        told();
        rubbed();
        game();
        move();
        dozes();
        DOC.endOfTerms(3);
        CHECK.end("EdgesOfHoursTest");
    }

    private static void bears(SumsNightwatch x, int cell, boolean does) {
        String what = "bears on " + cell;
        if (does) {
            CHECK.call(x, what, x.bears(cell), 0, 0);
        } else {
            CHECK.refused(x, what, x.bears(cell), 8);
        }
    }

    private static void lawBears() {
        DOC.terms(2, "34", "A LAW bears on a CELL, if its DIGIT is the LAW's first one and, if a PLACE is told, the CELL there"
                + " (left, right in its row; above, below in the row ahead, behind, at the same place) is there and has the"
                + " told DIGIT.");
        // Every CELL is 0: a LAW bears where there is such a CELL at all, and rows do not go on in one another.
        String zeros = "wide 3;account a debit;account b debit;account c debit;law 0 becomes 0 ";
        for (int place = 0; place < 4; place++) {
            SumsNightwatch x = Check.withBook(zeros + PLACES[place] + " 0;");
            SumsNightwatch other = Check.withBook(zeros + PLACES[place] + " 1;");
            for (int c = 0; c < 9; c++) {
                int column = c % 3;
                boolean isThere = place == 0 ? column > 0 : place == 1 ? column < 2 : place == 2 ? c > 2 : c < 6;
                bears(x, c, isThere);
                bears(other, c, false);
            }
        }
        // Each CELL is unlike all others, so that no other one can be taken for that in the PLACE.
        String unlike = "wide 3;account a debit 1 2 3;account b debit 4 5 6;account c debit 7 8 9;law 5 becomes 0";
        int[] beside = {4, 6, 2, 8};
        for (int place = 0; place < 4; place++) {
            for (int digit = 0; digit < 10; digit++) {
                SumsNightwatch x = Check.withBook(unlike + " " + PLACES[place] + " " + digit + ";");
                bears(x, 4, digit == beside[place]);
            }
        }
        SumsNightwatch always = Check.withBook(unlike + ";");
        for (int c = 0; c < 9; c++) {
            bears(always, c, c == 4);
        }
        SumsNightwatch alone = Check.withBook("wide 1;account a debit;law 0 becomes 1 left 0;law 0 becomes 1 right 0;"
                + "law 0 becomes 1 above 0;law 0 becomes 1 below 0;");
        bears(alone, 0, false);
    }

    private static void drift() {
        DOC.terms(2, "20, 21", "DRIFT: each CELL that is not TAPPED gets the second DIGIT of the first LAW that bears on it"
                + " (else it stays), all CELLS at once.");
        SumsNightwatch tapped = Check.withBook("wide 2;account a debit 1 1;law 1 becomes 2;");
        tapped.step(4);
        CHECK.same("the first is tapped", Check.digits(tapped), 12);
        SumsNightwatch first = Check.withBook("wide 3;account a debit 1 2 3;law 1 becomes 7 left 0;law 1 becomes 8;"
                + "law 1 becomes 9;law 2 becomes 2;law 2 becomes 5;");
        first.doze(1);
        CHECK.same("the first that bears, be it to the same; else it stays", Check.digits(first), 823);
        SumsNightwatch atOnce = Check.withBook("wide 3;account a debit 1 1 1;law 1 becomes 0 left 1;");
        atOnce.doze(1);
        CHECK.same("from left to right not one by one", Check.digits(atOnce), 100);
        SumsNightwatch back = Check.withBook("wide 3;account a debit 1 1 1;law 1 becomes 0 right 1;");
        back.doze(1);
        CHECK.same("from right to left neither", Check.digits(back), 1);
        SumsNightwatch down = Check.withBook("wide 1;account a debit 1;account b debit 1;account c debit 1;"
                + "law 1 becomes 0 above 1;");
        down.doze(1);
        CHECK.same("downward neither", Check.digits(down), 100);
        SumsNightwatch once = Check.withBook("wide 1;account a debit 1;law 1 becomes 2;law 2 becomes 3;");
        once.doze(1);
        CHECK.same("one law an hour", Check.digits(once), 2);
    }

    private static void step() {
        DOC.terms(2, "20", "STEP: the WATCHMAN goes up (0: to the row ahead), down (1), left (2), right (3) or stays (4);"
                + " the CELL where he is then is TAPPED for TAP HOURS; then an HOUR goes by.");
        String book = "wide 3;tap 9;account a debit;account b debit;account c debit;watch ";
        String[] from = {"a 0", "a 1", "a 2", "b 0", "b 1", "b 2", "c 0", "c 1", "c 2"};
        int[] by = {-3, 3, -1, 1, 0};
        for (int c = 0; c < 9; c++) {
            for (int way = 0; way < 5; way++) {
                SumsNightwatch x = Check.withBook(book + from[c] + ";");
                boolean out = way == 0 && c < 3 || way == 1 && c > 5 || way == 2 && c % 3 == 0 || way == 3 && c % 3 == 2;
                String what = "from " + c + " way " + way;
                CHECK.call(x, what, x.step(way), out ? -1 : c + by[way], out ? 9 : 0);
                CHECK.same(what + ", watch", x.watch(), out ? c : c + by[way]);
                CHECK.same(what + ", tapped", x.many(8), out ? 0 : 1 << c + by[way]);
                CHECK.same(what + ", hour", x.many(5), out ? 0 : 1);
            }
        }
        for (int tap = 1; tap <= 9; tap++) {
            SumsNightwatch x = Check.withBook("wide 1;account a debit 1;law 1 becomes 2;tap " + tap + ";");
            x.step(4);
            CHECK.same("one of TAP hours went by", x.cell(0, 2), tap - 1);
            CHECK.same("kept from now on", x.wrongBy(0), tap);
        }
    }

    private static void doze() {
        DOC.terms(2, "21", "DOZE: an HOUR goes by (he taps nothing).");
        SumsNightwatch x = Check.withBook("wide 1;account a debit 1;law 1 becomes 2;");
        CHECK.call(x, "doze", x.doze(1), 1, 0);
        CHECK.same("hour, tapped", x.many(5) * 10 + x.many(8), 10);
        CHECK.same("where he stands drifts too", x.cell(0, 0), 2);
    }

    private static void hour() {
        DOC.terms(2, "20, 21", "An HOUR goes by (to 9,999): 1. DRIFT. 2. each TAP lasts an HOUR less. 3. the HOUR is 1 more.");
        SumsNightwatch x = Check.withBook("wide 2;tap 2;account a debit 1 1;law 1 becomes 2;law 2 becomes 1;");
        x.step(4);
        CHECK.same("tapped for one more", x.cell(0, 2) * 100 + Check.digits(x), 112);
        x.doze(1);
        CHECK.same("kept in the last hour, too", x.cell(0, 2) * 100 + Check.digits(x), 11);
        x.doze(1);
        CHECK.same("not below 0; it drifts", x.cell(0, 2) * 100 + Check.digits(x), 22);
        CHECK.same("hour", x.many(5), 3);
        SumsNightwatch long9 = Check.withBook("wide 1;tap 9;account a debit 1;law 1 becomes 2;");
        long9.step(4);
        CHECK.same("nothing drifts for eight hours, then it does, in one doze", long9.doze(9), 1);
        Check.dozeTo(x, 9998);
        CHECK.call(x, "to the last", x.doze(1), 2, 0);
        CHECK.same("hour", x.many(5), 9999);
        CHECK.refused(x, "beyond by a doze", x.doze(1), 7);
        CHECK.refused(x, "beyond by a step", x.step(4), 7);
        CHECK.same("hour, tapped, digits", x.many(5) * 1000 + x.many(8) * 100 + Check.digits(x), 9999022);
        SumsNightwatch y = Check.withBook("account a debit;");
        Check.dozeTo(y, 9998);
        CHECK.call(y, "to the last by a step", y.step(4), 0, 0);
        CHECK.refused(y, "beyond", y.step(4), 7);
        SumsNightwatch none = new SumsNightwatch();
        Check.dozeTo(none, 9999);
        CHECK.refused(none, "without accounts, too", none.doze(1), 7);
    }

    private static void wrongAndSum() {
        DOC.terms(2, "13, 14", "WRONG is a CELL that has not its TRUE DIGIT.");
        SumsNightwatch x = Check.withBook("wide 1;account a debit;law 0 becomes 9;law 9 becomes 0;");
        CHECK.same("not at first", x.cell(0, 3) * 10 + x.many(7), 0);
        x.doze(1);
        CHECK.same("drifted", x.cell(0, 3) * 10 + x.many(7), 11);
        x.doze(1);
        CHECK.same("drifted back", x.cell(0, 3) * 10 + x.many(7), 0);
        DOC.terms(2, "16", "SUM of an ACCOUNT: its DIGITS, read as a number.");
        SumsNightwatch wide = Check.withBook("wide 5;account a debit 9 9 9 9 9;account b debit 0 0 0 0 7;"
                + "account c credit 7;account d credit;");
        int[] due = {99999, 7, 70000, 0};
        for (int a = 0; a < 4; a++) {
            CHECK.call(wide, "sum " + a, wide.account(a, 1), due[a], 0);
        }
        CHECK.same("one digit", Check.withBook("wide 1;account a debit 9;").account(0, 1), 9);
    }

    private static void even() {
        DOC.terms(2, "13, 18", "The BOOK is EVEN if SUMS of all debits together are SUMS of all credits.");
        String[] yes = {"", "account a debit;", "account a credit;", "account a debit 0 0 1;account b credit 0 0 1;",
            "account a credit 9 9 9;account b debit 9 9 8;account c debit 0 0 1;"};
        String[] no = {"account a debit 0 0 1;", "account a credit 0 0 1;", "account a debit 1;account b debit 1;",
            "account a debit 9 9 9;account b credit 9 9 8;", "account a debit 1 2;account b credit 0 2 1;"};
        for (String text : yes) {
            CHECK.same("even: " + text, Check.withBook(text).many(10), 1);
        }
        for (String text : no) {
            CHECK.same("not even: " + text, Check.withBook(text).many(10), 0);
        }
        SumsNightwatch most = Check.withBook("wide 5;account a debit 9 9 9 9 9;account b debit 9 9 9 9 9;"
                + "account c debit 9 9 9 9 9;account d debit 9 9 9 9 9;account e debit 9 9 9 9 9;");
        CHECK.call(most, "the most", most.balance(), 499995, 0);
        SumsNightwatch least = Check.withBook("wide 5;account a credit 9 9 9 9 9;account b credit 9 9 9 9 9;"
                + "account c credit 9 9 9 9 9;account d credit 9 9 9 9 9;account e credit 9 9 9 9 9;");
        CHECK.call(least, "the least", least.balance(), -499995, 0);
    }

    private static void mendAndSteal() {
        DOC.terms(2, "22", "MEND: a CELL has its TRUE DIGIT.");
        SumsNightwatch x = Check.withBook("wide 2;tap 3;account a debit 0 9;account b credit 5 5;watch a 1;");
        x.scratch(0, 9);
        x.scratch(1, 0);
        CHECK.call(x, "to 0", x.mend(0), 9, 0);
        CHECK.call(x, "to 9", x.mend(1), 0, 0);
        CHECK.same("digits", Check.digits(x), 955);
        DOC.terms(2, "13, 23", "STEAL: its DIGIT is 0; what it was is stolen.");
        CHECK.call(x, "9", x.steal(1), 9, 0);
        CHECK.call(x, "5", x.steal(3), 5, 0);
        CHECK.same("digits", Check.digits(x), 50);
        CHECK.call(x, "stolen in all", x.many(9), 14, 0);
        x.scratch(3, 1);
        CHECK.call(x, "1", x.steal(3), 1, 0);
        CHECK.same("what was scratched, too", x.many(9), 15);
        CHECK.same("true as it was", x.cell(3, 1), 5);
    }

    private static void ahead() {
        DOC.terms(3, "29 to 36", "All ahead is as only DOZES go by, what is TAPPED now being so (HOUR 9,999 does not matter).");
        String book = "wide 2;tap 3;account a debit 1 1;account b credit 2 3;law 1 becomes 2;law 2 becomes 3;"
                + "law 3 becomes 4;law 4 becomes 4;";
        SumsNightwatch x = Check.withBook(book);
        x.step(4);
        // 1 is kept for two HOURS more, the others go on: 12 34, 13 44, 14 44, 24 44, 34 44, 44 44.
        int[] first = {1, 1, 1, 2, 3, 4, 4};
        int[] wrong = {3, 3, 3, 4, 4, 4, 4};
        for (int h = 0; h < first.length; h++) {
            CHECK.call(x, "digit in " + h, x.digitIn(0, h), first[h], 0);
            CHECK.call(x, "wrong in " + h, x.wrongIn(h), wrong[h], 0);
        }
        CHECK.call(x, "wrong by", x.wrongBy(0), 3, 0);
        CHECK.call(x, "even", x.evenIn(), 5, 0);
        CHECK.call(x, "still", x.stillIn(), 5, 0);
        CHECK.same("nothing went by", x.many(5) * 10000 + Check.digits(x), 11234);
        CHECK.same("the tap is as it was", x.cell(0, 2), 2);
        SumsNightwatch late = Check.withBook(book);
        Check.dozeTo(late, 9998);
        late.scratch(0, 1);
        late.scratch(1, 1);
        late.scratch(2, 2);
        late.scratch(3, 3);
        late.step(4);
        CHECK.same("hour", late.many(5), 9999);
        CHECK.call(late, "digit in 300", late.digitIn(0, 300), 4, 0);
        CHECK.call(late, "digit in 3", late.digitIn(0, 3), 2, 0);
        CHECK.call(late, "wrong in 3", late.wrongIn(3), 4, 0);
        CHECK.call(late, "wrong by", late.wrongBy(0), 3, 0);
        CHECK.call(late, "even", late.evenIn(), 5, 0);
        CHECK.call(late, "still", late.stillIn(), 5, 0);
        CHECK.call(late, "round", late.round(1, 5), 0, 0);
        CHECK.call(late, "its first step", late.roundAt(1, 5, 0), 4, 0);
        CHECK.same("hour", late.many(5), 9999);
        roundBeside();
    }

    /** ROUNDS in which a CELL is kept by a TAP of now, as long as that lasts. */
    private static void roundBeside() {
        SumsNightwatch x = Check.withBook("wide 2;tap 4;account a debit 1 0;law 1 becomes 2;");
        x.step(4);
        x.rule(3, 1);
        x.step(3);
        x.scratch(1, 1);
        x.vouch(1);
        CHECK.same("tapped for two hours more", x.cell(0, 2) * 10 + x.cell(1, 2), 20);
        round(x, 3, 0, 4);
        round(x, 3, 0, 4, 4);
        round(x, 3, 1, 4, 4, 4);
        // Tapped by a STEP of the ROUND itself: CELL 0 drifts at once, CELL 1 in the second HOUR, when CELL 2 has become 9.
        SumsNightwatch y = Check.withBook("wide 3;tap 1;account a debit 1 3 8;law 1 becomes 2;law 3 becomes 4 right 9;"
                + "law 8 becomes 9;");
        round(y, 3, 1, 4, 4);
        y.rule(3, 2);
        round(y, 3, 0, 4, 3);
        round(y, 3, 0, 4, 3, 2);
        y.rule(3, 3);
        round(y, 3, 0, 4, 3, 4);
    }

    /** ROUND as a number of its STEPS. */
    private static void round(SumsNightwatch x, int set, int wrong, int... ways) {
        CHECK.call(x, "round of " + set, x.round(set, ways.length), wrong, 0);
        for (int k = 0; k < ways.length; k++) {
            CHECK.call(x, "round of " + set + ", step " + k, x.roundAt(set, ways.length, k), ways[k], 0);
        }
    }

    private static void round() {
        DOC.terms(3, "35, 36", "ROUND of n STEPS (1 to 5) for a set of CELLS: the STEPS by which the fewest of these are WRONG"
                + " in the end; of several those by which he stays the most; of these the first by STEPS (0 to 4).");
        SumsNightwatch x = Check.withBook("wide 3;tap 1;account a debit 1 1 1;account b debit 1 1 1;account c debit 1 1 1;"
                + "law 1 becomes 2;watch b 1;");
        // CELLS 1, 3, 5, 7 are up, left, right, down of where he is, CELL 4.
        round(x, 2 | 8, 1, 0);
        round(x, 8 | 32, 1, 2);
        round(x, 32 | 128, 1, 1);
        round(x, 128 | 8, 1, 1);
        round(x, 32, 0, 3);
        round(x, 16 | 2, 1, 4);
        round(x, 511, 8, 4);
        round(x, 0, 0, 4);
        round(x, 0, 0, 4, 4, 4, 4, 4);
        // A CELL two STEPS away is WRONG ahead of his being there.
        round(x, 1, 1, 4, 4);
        // How it is in the end alone counts: what was WRONG in between is right again.
        SumsNightwatch fro = Check.withBook("wide 2;tap 1;account a debit 1 1;law 1 becomes 2;law 2 becomes 1;");
        round(fro, 3, 0, 4, 4);
        round(fro, 2, 0, 3);
        SumsNightwatch all = Check.withBook("wide 5;account a debit;account b debit;account c debit;account d debit;"
                + "account e debit;");
        for (int c = 0; c < 25; c++) {
            all.scratch(c, 1);
        }
        round(all, (1 << 25) - 1, 25, 4);
    }

    private static void past() {
        DOC.terms(3, "38", "PAST of an ACCOUNT: all rows of DIGITS for it that would be as its row is now behind one DRIFT, if"
                + " nothing was TAPPED and the other rows were as they are now (what those become is not asked).");
        SumsNightwatch x = Check.withBook("wide 1;account a debit 1;account b debit 2;law 1 becomes 2;law 2 becomes 3;"
                + "law 3 becomes 1 below 2;law 4 becomes 1 below 3;");
        CHECK.call(x, "3 alone, for 2 stands below it now", x.past(0), 1, 0);
        CHECK.call(x, "it is 3", x.leastPast(0), 3, 0);
        CHECK.call(x, "1 alone", x.past(1), 1, 0);
        x.scratch(1, 3);
        CHECK.call(x, "4 alone, for 3 stands there now", x.leastPast(0), 4, 0);
        // 3 has nothing below it in the last row, so it would stay.
        CHECK.call(x, "2 and 3", x.past(1), 2, 0);
        x.rule(3, 9);
        x.step(4);
        CHECK.call(x, "a tap does not matter", x.past(0), 1, 0);
        CHECK.call(x, "else it would be 1 itself", x.leastPast(0), 4, 0);
        SumsNightwatch all = Check.withBook("wide 5;account a debit;");
        CHECK.call(all, "without laws its own", all.past(0), 1, 0);
        for (int d = 1; d < 10; d++) {
            all.enact(d, 0, 0, 0);
        }
        CHECK.call(all, "all there are", all.past(0), 100000, 0);
        all.enact(0, 1, 0, 0);
        CHECK.call(all, "all but those with a 0", all.past(0), 59049, 0);
        for (int d = 0; d < 10; d++) {
            // A DIGIT and 0 behind it, or 1 that becomes 0; and likewise the other way round.
            SumsNightwatch left = Check.withBook("wide 2;account a debit " + d + " 0;law 1 becomes 0 left " + d + ";");
            CHECK.call(left, d + " to the left", left.past(0), 2, 0);
            CHECK.call(left, d + " to the left", left.likely(0, 10 * d + 1), 1, 0);
            SumsNightwatch right = Check.withBook("wide 2;account a debit 0 " + d + ";law 1 becomes 0 right " + d + ";");
            CHECK.call(right, d + " to the right", right.past(0), 2, 0);
            CHECK.call(right, d + " to the right", right.likely(0, 10 + d), 1, 0);
            // No other one to the left will do.
            SumsNightwatch other = Check.withBook("wide 2;account a debit " + (d + 1) % 10 + " 0;law 1 becomes 0 left " + d + ";");
            CHECK.call(other, "another to the left", other.past(0), 1, 0);
        }
        // 5 or 1, then 9 and 0 or 1, or 3 and 0: behind a 3 a 1 becomes 5.
        SumsNightwatch among = Check.withBook("wide 3;account a debit 5 9 0;law 3 becomes 9;law 1 becomes 0 left 9;"
                + "law 1 becomes 5;");
        CHECK.call(among, "590, 591, 530, 190, 191, 130", among.past(0), 6, 0);
        CHECK.call(among, "the least of them", among.leastPast(0), 130, 0);
        for (int row : new int[] {0, 1, 10, 112, 211, 998, 11223, 12345, 33221, 98789}) {
            SumsNightwatch own = Check.withBook("wide 5;account a debit " + String.format("%05d", row).replaceAll(".", "$0 ") + ";");
            CHECK.call(own, "without laws itself alone", own.past(0), 1, 0);
            CHECK.call(own, "itself", own.leastPast(0), row, 0);
        }
    }

    private static void likely() {
        DOC.terms(3, "39", "LIKELY: PAST rows whose SUM is a told number.");
        SumsNightwatch x = Check.withBook("wide 2;account a debit 0 0;law 5 becomes 0;law 9 becomes 0;");
        int[] rows = {0, 5, 9, 50, 55, 59, 90, 95, 99};
        for (int sum : rows) {
            CHECK.call(x, "likely " + sum, x.likely(0, sum), 1, 0);
        }
        for (int sum : new int[] {1, 4, 10, 49, 98, 100, 105, 500, 1000, Integer.MAX_VALUE}) {
            CHECK.call(x, "likely " + sum, x.likely(0, sum), 0, 0);
        }
        CHECK.call(x, "no others", x.past(0), rows.length, 0);
        // By what stands there and above it now, be it TRUE or not.
        SumsNightwatch now = Check.withBook("wide 3;account a debit 1 1 1;account b debit 1 1 1;law 5 becomes 0 above 2;");
        CHECK.call(now, "as it is told", now.likely(1, 111), 1, 0);
        now.scratch(1, 2);
        now.scratch(4, 0);
        CHECK.call(now, "not any more", now.likely(1, 111), 0, 0);
        CHECK.call(now, "5 behind 2", now.likely(1, 151), 1, 0);
        CHECK.call(now, "itself", now.likely(1, 101), 1, 0);
        CHECK.call(now, "no 2 is above", now.likely(1, 501), 0, 0);
        now.step(4);
        CHECK.call(now, "a tap does not matter", now.likely(1, 151), 1, 0);
        int nines = 0;
        for (int wide = 1; wide <= 5; wide++) {
            nines = nines * 10 + 9;
            SumsNightwatch y = Check.withBook("wide " + wide + ";account a debit" + " 9".repeat(wide) + ";law 8 becomes 9;");
            CHECK.call(y, "the greatest", y.likely(0, nines), 1, 0);
            CHECK.call(y, "one less", y.likely(0, nines - 1), 1, 0);
            CHECK.call(y, "one more", y.likely(0, nines + 1), 0, 0);
            CHECK.call(y, "the least", y.leastPast(0), nines / 9 * 8, 0);
            CHECK.call(y, "all of them", y.past(0), 1 << wide, 0);
        }
    }

    private static void may() {
        DOC.terms(3, "41", "MAY: to which DIGITS another one can come by LAWS (PLACES not asked), by any number of these"
                + " (none, too).");
        SumsNightwatch none = new SumsNightwatch();
        for (int d = 0; d < 10; d++) {
            CHECK.call(none, "by none: " + d, none.may(d), 1 << d, 0);
        }
        // The LAWS stand so that each comes ahead of that which leads to it.
        SumsNightwatch chain = Check.withBook("law 8 becomes 9 above 0;law 7 becomes 8 left 3;law 6 becomes 7;"
                + "law 5 becomes 6;law 4 becomes 5;law 3 becomes 4;law 2 becomes 3;law 1 becomes 2;law 0 becomes 1;");
        for (int d = 0; d < 10; d++) {
            CHECK.call(chain, "from " + d, chain.may(d), 1024 - (1 << d), 0);
        }
        SumsNightwatch ring = Check.withBook("law 0 becomes 9;law 9 becomes 0;");
        CHECK.call(ring, "around", ring.may(9), 1 | 512, 0);
        CHECK.call(ring, "by itself", ring.may(5), 32, 0);
    }

    private static void theft() {
        DOC.terms(3, "42", "THEFT: the set of CELLS that have a DIGIT to which their TRUE one can't come so.");
        SumsNightwatch x = Check.withBook("wide 5;account a debit 1 1 1 1 1;account b debit 1 1 1 1 1;"
                + "account c debit 1 1 1 1 1;account d debit 1 1 1 1 1;account e debit 1 1 1 1 1;law 1 becomes 2 left 9;"
                + "law 2 becomes 3;");
        CHECK.call(x, "none", x.theft(), 0, 0);
        x.scratch(0, 2);
        x.scratch(24, 3);
        CHECK.call(x, "they may be so", x.theft(), 0, 0);
        x.scratch(0, 0);
        CHECK.call(x, "the first", x.theft(), 1, 0);
        x.scratch(24, 4);
        CHECK.call(x, "the first and the last", x.theft(), 1 | 1 << 24, 0);
        x.vouch(24);
        CHECK.call(x, "true from now on", x.theft(), 1, 0);
        SumsNightwatch none = new SumsNightwatch();
        CHECK.call(none, "no cells", none.theft(), 0, 0);
    }

    private static void told() {
        // Where one ACCOUNT and one place alone are unlike, both are so by as much: all differences together are the same.
        DOC.terms(3, "43", "SUMS tell of a CELL, if in just one ACCOUNT the DIGITS together, and in just one place the DIGITS"
                + " of all ACCOUNTS together, are not as many as they are TRUE, and both by as much: that CELL.");
        SumsNightwatch x = Check.withBook("wide 2;account a debit 5 5;account b credit 5 5;");
        CHECK.refused(x, "in none", x.told(), 8);
        for (int c = 0; c < 4; c++) {
            x.scratch(c, c % 2 == 0 ? 0 : 9);
            CHECK.call(x, "one cell", x.told(), c, 0);
            x.mend(c);
        }
        x.scratch(0, 6);
        x.scratch(1, 4);
        CHECK.refused(x, "no account, two places", x.told(), 8);
        x.scratch(2, 4);
        CHECK.call(x, "b and the second place, by 1 less", x.told(), 3, 0);
        x.scratch(3, 6);
        CHECK.refused(x, "no account, no place", x.told(), 8);
        x.scratch(3, 7);
        CHECK.call(x, "all are wrong, this one by 1 more than it comes out", x.told(), 3, 0);
        x.mend(1);
        x.mend(2);
        CHECK.refused(x, "two accounts, two places", x.told(), 8);
        x.mend(3);
        x.scratch(2, 4);
        CHECK.refused(x, "two accounts, no place", x.told(), 8);
        x.scratch(2, 6);
        CHECK.refused(x, "two accounts, one place", x.told(), 8);
        x.mend(2);
        x.scratch(1, 6);
        CHECK.refused(x, "one account, two places", x.told(), 8);
        for (String text : new String[] {"wide 4;account a debit;account b debit;", "wide 2;account a debit;account b debit;"
                + "account c debit;account d debit;"}) {
            SumsNightwatch y = Check.withBook(text);
            for (int c = 0; c < 8; c++) {
                y.scratch(c, 1);
                CHECK.call(y, "one of 8 cells", y.told(), c, 0);
                y.mend(c);
            }
        }
        SumsNightwatch row = Check.withBook("wide 3;account a debit 5 5 5;");
        row.scratch(0, 6);
        row.scratch(1, 4);
        row.scratch(2, 6);
        CHECK.refused(row, "one account by 1, three places, the last by 1", row.told(), 8);
        SumsNightwatch column = Check.withBook("wide 1;account a debit 5;account b debit 5;account c debit 5;");
        column.scratch(0, 6);
        column.scratch(1, 4);
        column.scratch(2, 6);
        CHECK.refused(column, "one place by 1, three accounts, the last by 1", column.told(), 8);
        SumsNightwatch one = Check.withBook("wide 1;account a debit;");
        one.scratch(0, 1);
        CHECK.call(one, "the only cell", one.told(), 0, 0);
        SumsNightwatch none = new SumsNightwatch();
        CHECK.refused(none, "no cells", none.told(), 8);
    }

    private static void rubs(String book, int many, int set) {
        SumsNightwatch x = Check.withBook(book);
        CHECK.call(x, "rubbed: " + book, x.rubbed(), many, many < 0 ? 8 : 0);
        CHECK.call(x, "the set: " + book, x.rubbedSet(), set, many < 0 ? 8 : 0);
    }

    private static void rubbed() {
        DOC.terms(3, "44, 45", "RUBBED: the fewest CELLS (0, 1 or 2) that must get other DIGITS so that the BOOK is EVEN; of"
                + " several sets of CELLS the least as a number (1 for CELL 0 ..).");
        rubs("", 0, 0);
        rubs("wide 1;account a debit 7;account b credit 7;", 0, 0);
        rubs("wide 1;account a debit 9;account b credit;", 1, 1);
        rubs("wide 1;account a debit;account b credit 9;", 1, 1);
        // 9 and 9 against 0, 0: no single one, and the debits, both to 0, are the least set.
        rubs("wide 1;account a debit 9;account b debit 9;account c credit;account d credit;", 2, 3);
        // CELL 0 can't be more than 9, so CELL 1, though it is the second.
        rubs("wide 1;account a debit 9;account b credit 9;account c credit 1;", 1, 2);
        // By 10 to 20 and by 2 to 8 or 5: 3 (CELLS 0, 1) is less than 5, 6 and 9.
        rubs("wide 2;account a debit 1 2;account b credit 2 5;", 2, 3);
        // CELLS 1 and 2 (6) are a greater number than 0 and 1 (3), a lesser one than 0 and 3 (9).
        rubs("wide 1;account a credit;account b debit 9;account c debit 9;account d credit;", 2, 3);
        rubs("wide 1;account a credit 9;account b debit 9;account c debit 9;account d debit 9;", 2, 6);
        rubs("wide 1;account a debit 9;account b debit 9;account c debit 9;", -1, -1);
        rubs("wide 3;account a debit 1 1 1;", -1, -1);
        rubs("wide 3;account a debit 1 0 1;", 2, 5);
        rubs("wide 5;account a debit;account b debit;account c debit;account d debit;account e debit 0 0 0 0 1;", 1, 1 << 24);
        // Each place by what it is worth.
        for (int place = 0; place < 5; place++) {
            rubs("wide 5;account a debit" + " 0".repeat(place) + " 7;account b credit;", 1, 1 << place);
        }
        // 18: both debits get 9, be it by 9 or by 1; 19 and 20 are too many.
        rubs("wide 1;account a debit;account b debit;account c credit 9;account d credit 9;", 2, 3);
        rubs("wide 1;account a debit;account b debit 8;account c credit 9;account d credit 9;", 2, 3);
        rubs("wide 1;account a debit;account b debit;account c credit 9;account d credit 9;account e credit 1;", -1, -1);
        rubs("wide 1;account a debit;account b debit;account c credit 9;account d credit 9;account e credit 2;", -1, -1);
    }

    private static void game() {
        DOC.terms(3, "46", "GAME of n turns (0 to 2): by turns the thief STEALS from a CELL that has not 0 and is 2 or more"
                + " STEPS from the WATCHMAN, or from none, then the WATCHMAN makes a STEP's way (nothing is tapped, nothing"
                + " drifts): how much is stolen in all, by best play.");
        for (int far = 0; far < 5; far++) {
            // Only one CELL has not 0, so many STEPS away.
            SumsNightwatch x = Check.withBook("wide 5;account a debit" + " 0".repeat(far) + " 7;");
            CHECK.call(x, far + " steps away", x.game(1), far < 2 ? 0 : 7, 0);
            CHECK.call(x, far + " steps away, two turns", x.game(2), far < 2 ? 0 : 7, 0);
        }
        SumsNightwatch two = Check.withBook("wide 5;account a debit 0 0 1 2 9;law 9 becomes 0;");
        CHECK.call(two, "none", two.game(0), 0, 0);
        CHECK.call(two, "the greatest", two.game(1), 9, 0);
        // Behind the first theft he goes to the right: CELL 2 is then too near, CELL 3 is not.
        CHECK.call(two, "nothing drifts", two.game(2), 11, 0);
        CHECK.same("nothing is done", two.many(5) * 100 + two.many(9) * 10 + two.watch(), 0);
        CHECK.same("digits", Check.digits(two), 129);
        // From a corner two CELLS can be had, and he goes to the other one: by each of the four ways.
        String[] corners = {"a 0", "a 2", "c 0", "c 2"};
        for (int i = 0; i < 4; i++) {
            String ends = i == 0 || i == 3 ? "account a debit 0 0 5;account b debit;account c debit 5;"
                    : "account a debit 5;account b debit;account c debit 0 0 5;";
            SumsNightwatch x = Check.withBook("wide 3;" + ends + "watch " + corners[i] + ";");
            CHECK.call(x, "the one or the other", x.game(2), 5, 0);
        }
        SumsNightwatch now = Check.withBook("wide 4;account a debit 0 0 7 0;");
        now.scratch(2, 3);
        CHECK.call(now, "what stands there now, be it TRUE or not", now.game(1), 3, 0);
        now.scratch(3, 4);
        CHECK.call(now, "4", now.game(1), 4, 0);
        CHECK.call(now, "4", now.moveOf(1), 3, 0);
        now.steal(3);
        now.steal(2);
        CHECK.call(now, "nothing stands there now", now.game(1), 0, 0);
        CHECK.refused(now, "nothing stands there now", now.moveOf(1), 8);
        SumsNightwatch first = Check.withBook("wide 3;account a debit 5 6 7;watch a 2;");
        CHECK.call(first, "the first cell", first.game(1), 5, 0);
        CHECK.call(first, "the first cell", first.moveOf(1), 0, 0);
        // A CELL is stolen from once: then it has 0.
        SumsNightwatch once = Check.withBook("wide 3;account a debit 0 0 9;");
        CHECK.call(once, "once", once.game(2), 9, 0);
        // He may stay: in the corner he keeps both sides.
        SumsNightwatch corner = Check.withBook("wide 2;account a debit 9 8;account b credit 7 6;");
        CHECK.call(corner, "the far corner alone", corner.game(2), 6, 0);
        SumsNightwatch single = Check.withBook("wide 1;account a debit 9;");
        CHECK.call(single, "one cell", single.game(2), 0, 0);
        CHECK.refused(two, "3", two.game(3), 5);
        CHECK.refused(two, "-1", two.game(-1), 5);
    }

    private static void move() {
        DOC.terms(3, "47", "MOVE: from which CELL first, of all that are as good the first; none comes last.");
        SumsNightwatch ends = Check.withBook("wide 5;account a debit 4 0 0 0 4;watch a 2;");
        CHECK.call(ends, "the first of two", ends.moveOf(1), 0, 0);
        // From none first would be as good: CELL 3 can be had in the second turn, too.
        SumsNightwatch later = Check.withBook("wide 4;account a debit 0 0 0 5;");
        CHECK.call(later, "from none is as good, but comes last", later.moveOf(2), 3, 0);
        CHECK.same("as good", later.game(2), 5);
        SumsNightwatch lesser = Check.withBook("wide 5;account a debit 0 0 1 2 9;");
        // CELL 2 first leaves 9 for the second turn, CELL 4 first only 2, CELL 3 first 9: that is 10, 11 and 11.
        CHECK.call(lesser, "not the greatest, the first that is as good", lesser.moveOf(2), 3, 0);
        CHECK.call(lesser, "of one turn the greatest", lesser.moveOf(1), 4, 0);
        SumsNightwatch none = Check.withBook("wide 2;account a debit 9 9;");
        CHECK.refused(none, "none", none.moveOf(1), 8);
        CHECK.refused(none, "none", none.moveOf(2), 8);
        SumsNightwatch empty = Check.withBook("wide 5;account a debit;account b debit;account c debit;account d debit;"
                + "account e debit;");
        CHECK.refused(empty, "from 0 he can't", empty.moveOf(2), 8);
    }

    private static void dozes() {
        DOC.terms(3, "48", "DOZES: the odds that he dozes k or more of n HOURS, each by ODDS sixteenths.");
        SumsNightwatch x = Check.withBook("odds 1;");
        CHECK.dozes(x, 1, 0, 1, 1);
        CHECK.dozes(x, 1, 1, 1, 16);
        CHECK.dozes(x, 1, 2, 0, 1);
        CHECK.dozes(x, 2, 1, 31, 256);
        CHECK.dozes(x, 2, 2, 1, 256);
        CHECK.dozes(x, 12, 12, 1, 1L << 48);
        // 15 to the 12th is 129,746,337,890,625.
        CHECK.dozes(x, 12, 1, 281474976710656L - 129746337890625L, 281474976710656L);
        x.rule(4, 15);
        CHECK.dozes(x, 12, 12, 129746337890625L, 281474976710656L);
        x.rule(4, 0);
        CHECK.dozes(x, 12, 0, 1, 1);
        CHECK.dozes(x, 12, 1, 0, 1);
        x.rule(4, 16);
        CHECK.dozes(x, 12, 12, 1, 1);
        CHECK.dozes(x, 0, 0, 1, 1);
        CHECK.dozes(x, 0, 1, 0, 1);
        x.rule(4, 8);
        CHECK.dozes(x, 3, 2, 1, 2);
    }
}
