/** Promises 1 to 28, sentence by sentence: a new object, TRAYS, texts, what is told and done. RefusedCallsTest has all STATUS. */
public final class EdgesOfDoingTest {
    private static final Check CHECK = new Check();
    private static final Doc DOC = new Doc(CHECK);
    private static final String BOOK = "wide 2;tap 3;odds 5;account a debit 1 2;account b credit 0 9;law 1 becomes 2;"
            + "law 9 becomes 8 left 0;watch b 1;";
    private static final int BLANKS = 0x20202020;

    public static void main(String[] args) {
        calls();
        newObject();
        status();
        fraction();
        tray();
        writeAndRead();
        pour();
        feed();
        book();
        nights();
        fault();
        many();
        cellAndWatch();
        accountAndLaw();
        balanceAndCopy();
        step();
        doze();
        mendAndSteal();
        scratchAndVouch();
        enact();
        repealAndRule();
        DOC.endOfPromises(1, 28);
        CHECK.end("EdgesOfDoingTest");
    }

    private static void calls() {
        DOC.whatItIs("An object is used for at most 512 calls after it has been made; what later calls answer is free.");
        SumsNightwatch x = new SumsNightwatch();
        for (int i = 1; i < 512; i++) {
            x.enact(i % 10, (i + 1) % 10, 0, 0);
        }
        CHECK.same("the 512th call", x.may(3), 1023);
    }

    private static void newObject() {
        DOC.promise(1, "TRAYS are MISSING,");
        SumsNightwatch x = new SumsNightwatch();
        for (int tray = 0; tray < 4; tray++) {
            CHECK.refused(x, "read", x.read(tray, 0), 3);
        }
        DOC.promise(1, "a BOOK of no ACCOUNTS, LAWS (WIDE 3, TAP 2, ODDS 2),");
        CHECK.many(x, 0, 0, 3, 2, 2, 0, 0, 0, 0, 0, 1);
        CHECK.refused(x, "no cell", x.cell(0, 0), 2);
        CHECK.refused(x, "no law", x.law(0, 0), 2);
        DOC.promise(1, "no NIGHTS, MARKS, an empty tape;");
        CHECK.refused(x, "live", x.live(0), 8);
        CHECK.refused(x, "back", x.back(), 8);
        CHECK.refused(x, "a byte of the tape", x.book(1), 5);
        CHECK.same("its first twenty", x.feed(BLANKS, BLANKS, BLANKS, BLANKS, BLANKS), 20);
        DOC.promise(1, "STATUS 0, the FRACTION 0 by 1.");
        SumsNightwatch y = new SumsNightwatch();
        CHECK.same("status", y.status(), 0);
        CHECK.fraction(y, "new", 0, 1);
    }

    private static void status() {
        DOC.promise(2, "The STATUS of the latest call that has one.");
        SumsNightwatch x = new SumsNightwatch();
        x.many(11);
        CHECK.same("5", x.status(), 5);
        x.feed(BLANKS, BLANKS, BLANKS, BLANKS, BLANKS);
        x.fault(0);
        CHECK.same("still 5", x.status(), 5);
        x.watch();
        CHECK.same("8", x.status(), 8);
        x.many(0);
        CHECK.same("0", x.status(), 0);
    }

    private static void fraction() {
        DOC.promise(3, "The top of the FRACTION told latest.");
        SumsNightwatch x = Check.withBook("odds 3;account a debit;");
        x.dozes(1, 1);
        CHECK.same("top", x.top(), 3);
        CHECK.refused(x, "told none", x.dozes(13, 1), 5);
        CHECK.same("top as it was", x.top(), 3);
        x.scratch(0, 1);
        x.shame();
        CHECK.same("top of the next", x.top(), 1);
        DOC.promise(4, "Its bottom, above 0.");
        CHECK.same("bottom", x.bottom(), 3);
        CHECK.refused(x, "told none", x.mean(0, 1), 8);
        CHECK.same("bottom as it was", x.bottom(), 3);
        x.dozes(12, 12);
        CHECK.fraction(x, "the greatest bottom", 531441, 1L << 48);
        x.mend(0);
        x.shame();
        CHECK.fraction(x, "of 0", 0, 1);
    }

    private static void tray() {
        DOC.promise(5, "A TRAY is a row of so many numbers (at most 60; 5),");
        SumsNightwatch x = new SumsNightwatch();
        CHECK.call(x, "60", x.tray(0, 3, 60), true, 0);
        CHECK.call(x, "the last of 60", x.write(0, 59, 7), true, 0);
        CHECK.refused(x, "no 61st", x.write(0, 60, 7), 4);
        CHECK.refused(x, "61", x.tray(0, 3, 61), 5);
        CHECK.call(x, "as it was", x.read(0, 59), 7, 0);
        CHECK.call(x, "of none", x.tray(1, 0, 0), true, 0);
        CHECK.refused(x, "has no place", x.read(1, 0), 4);
        CHECK.call(x, "of one", x.tray(1, 0, 1), true, 0);
        CHECK.call(x, "has its first", x.read(1, 0), 0, 0);
        CHECK.refused(x, "and no second", x.read(1, 1), 4);
        DOC.promise(5, "all 0 (1; 5; 6).");
        CHECK.call(x, "made anew", x.tray(0, 2, 60), true, 0);
        for (int place = 0; place < 60; place++) {
            CHECK.call(x, "place " + place, x.read(0, place), 0, 0);
        }
        CHECK.refused(x, "1 ahead of 5", x.tray(4, 0, 61), 1);
        CHECK.refused(x, "1 ahead of 6", x.tray(0, -1, -1), 1);
        CHECK.refused(x, "5", x.tray(0, 0, Integer.MAX_VALUE), 5);
        CHECK.refused(x, "6", x.tray(0, 0, -1), 6);
        CHECK.refused(x, "6", x.tray(0, 0, Integer.MIN_VALUE), 6);
        // What stood beyond a shorter row's end is not there when it is longer again.
        x.write(0, 59, 5);
        x.tray(0, 2, 1);
        x.tray(0, 2, 60);
        CHECK.call(x, "longer again", x.read(0, 59), 0, 0);
    }

    private static void writeAndRead() {
        DOC.promise(6, "A number comes to a place of a TRAY (1; 3; 4).");
        SumsNightwatch x = new SumsNightwatch();
        x.tray(2, 1, 3);
        CHECK.call(x, "first", x.write(2, 0, 5), true, 0);
        CHECK.call(x, "last", x.write(2, 2, 6), true, 0);
        CHECK.refused(x, "-1", x.write(2, -1, 7), 4);
        CHECK.refused(x, "behind the last", x.write(2, 3, 7), 4);
        CHECK.refused(x, "missing", x.write(1, 3, 7), 3);
        CHECK.refused(x, "no tray", x.write(4, 3, 7), 1);
        CHECK.same("5 0 6", x.read(2, 0) * 100 + x.read(2, 1) * 10 + x.read(2, 2), 506);
        DOC.promise(7, "The number in a place of a TRAY; STATUS tells NONE from -1 (1; 3; 4).");
        x.write(2, 1, 0xffff);
        CHECK.call(x, "-1", x.read(2, 1), -1, 0);
        CHECK.refused(x, "-1", x.read(2, -1), 4);
        CHECK.refused(x, "behind the last", x.read(2, 3), 4);
        CHECK.refused(x, "missing", x.read(0, -1), 3);
        CHECK.refused(x, "no tray", x.read(-1, -1), 1);
    }

    private static SumsNightwatch fiveNumbers() {
        SumsNightwatch x = new SumsNightwatch();
        x.tray(0, 0, 5);
        x.tray(1, 0, 3);
        x.tray(2, 1, 5);
        for (int place = 0; place < 5; place++) {
            x.write(0, place, place + 1);
        }
        return x;
    }

    private static void pour() {
        DOC.promise(8, "So many numbers from place i on of a TRAY come to place j on of another one, or the same, as they were:");
        int[][] given = {{0, 2, 3}, {2, 0, 3}, {0, 1, 4}, {1, 0, 4}, {0, 0, 5}, {4, 0, 1}, {0, 4, 1}, {5, 0, 0}, {0, 5, 0}};
        long[] due = {12123, 34545, 11234, 23455, 12345, 52345, 12341, 12345, 12345};
        for (int i = 0; i < given.length; i++) {
            SumsNightwatch x = fiveNumbers();
            CHECK.call(x, "to itself", x.pour(0, given[i][0], 0, given[i][1], given[i][2]), true, 0);
            CHECK.same("to itself, " + i, Check.row(x, 0, 5), due[i]);
        }
        SumsNightwatch x = fiveNumbers();
        CHECK.call(x, "all that fit", x.pour(0, 2, 1, 0, 3), true, 0);
        CHECK.same("there", Check.row(x, 1, 3), 345);
        CHECK.same("still here", Check.row(x, 0, 5), 12345);
        CHECK.call(x, "none", x.pour(0, 5, 1, 3, 0), true, 0);
        DOC.promise(8, "1, 3 (either), 11, 6, 4, asked in this order.");
        CHECK.refused(x, "1, 3, 6", x.pour(4, -1, 3, -1, -1), 1);
        CHECK.refused(x, "1 of the other", x.pour(3, -1, 4, -1, -1), 1);
        CHECK.refused(x, "3, 6", x.pour(3, -1, 0, -1, -1), 3);
        CHECK.refused(x, "3 of the other", x.pour(2, -1, 3, -1, -1), 3);
        CHECK.refused(x, "11, 6, 4", x.pour(0, -1, 2, -1, -1), 11);
        CHECK.refused(x, "6, 4", x.pour(0, -1, 1, -1, -1), 6);
        CHECK.refused(x, "4", x.pour(0, 0, 1, 0, 4), 4);
        CHECK.refused(x, "4", x.pour(0, 3, 1, 0, 3), 4);
        CHECK.refused(x, "4", x.pour(0, 0, 1, 1, 3), 4);
        CHECK.refused(x, "4 of itself", x.pour(0, 0, 0, 3, 3), 4);
        CHECK.refused(x, "4, beyond what an int has", x.pour(0, 1, 1, 1, Integer.MAX_VALUE), 4);
        CHECK.refused(x, "4, from below", x.pour(0, -1, 1, 0, 1), 4);
        CHECK.refused(x, "4, from far below", x.pour(0, Integer.MIN_VALUE, 1, Integer.MIN_VALUE, 1), 4);
        CHECK.same("nothing was poured", Check.row(x, 1, 3) * 100000 + Check.row(x, 0, 5), 34512345);
    }

    private static void feed() {
        DOC.promise(9, "Twenty bytes come behind those on the tape, the highest of each int first: how many it has;");
        SumsNightwatch x = new SumsNightwatch();
        // "wide 4;tap 8;odds 11" and ";" with blanks
        CHECK.same("20", x.feed(0x77696465, 0x20343b74, 0x61702038, 0x3b6f6464, 0x73203131), 20);
        CHECK.same("40", x.feed(0x3b202020, BLANKS, BLANKS, BLANKS, BLANKS), 40);
        CHECK.call(x, "book", x.book(21), 0, 0);
        CHECK.same("wide, tap, odds", x.many(2) * 1000 + x.many(3) * 100 + x.many(4), 4811);
        CHECK.same("empty then", x.feed(0xffffffff, 0x80808080, 0, 0, 0), 20);
        CHECK.refused(x, "bytes above 127", x.book(20), 10);
        CHECK.fault(x, "bytes above 127", 1, 0);
        DOC.promise(9, "NONE if there would be more than 900.");
        for (int i = 1; i <= 45; i++) {
            CHECK.same("feed " + i, x.feed(BLANKS, BLANKS, BLANKS, BLANKS, BLANKS), 20 * i);
        }
        CHECK.same("more than 900", x.feed(0, 0, 0, 0, 0), -1);
        CHECK.same("again", x.feed(0, 0, 0, 0, 0), -1);
        CHECK.call(x, "nothing came to it", x.book(900), 0, 0);
        CHECK.same("empty then", x.feed(BLANKS, BLANKS, BLANKS, BLANKS, BLANKS), 20);
    }

    private static void book() {
        DOC.promise(10, "The first n bytes of the tape (which is empty then, but for 5) are the BOOK: how many ACCOUNTS");
        SumsNightwatch x = new SumsNightwatch();
        Check.feed(x, "account a debit;!!!!");
        CHECK.refused(x, "-1", x.book(-1), 5);
        CHECK.refused(x, "21", x.book(21), 5);
        CHECK.call(x, "the first 16: the tape was still there", x.book(16), 1, 0);
        CHECK.refused(x, "empty then", x.book(1), 5);
        CHECK.call(x, "of no bytes", x.book(0), 0, 0);
        Check.feed(x, "account a debit;!!!!");
        CHECK.call(x, "no bytes of some", x.book(0), 0, 0);
        CHECK.refused(x, "empty then, too", x.book(1), 5);
        Check.feed(x, "account a debit;!!!!");
        CHECK.refused(x, "with 10", x.book(20), 10);
        CHECK.refused(x, "empty then, too", x.book(1), 5);
        CHECK.call(x, "five", Check.book(x, "account a debit;account b debit;account c debit;account d debit;account e debit;"),
                5, 0);
        DOC.promise(10, "(5; 10: the old one stays).");
        CHECK.refused(x, "5", x.book(Integer.MAX_VALUE), 5);
        CHECK.refused(x, "5", x.book(Integer.MIN_VALUE), 5);
        x.doze(7);
        // All but the last part would be taken.
        CHECK.refused(x, "10", Check.book(x, "wide 1;tap 9;odds 9;account z debit 9;law 1 becomes 2;watch z 0;stop;"), 10);
        CHECK.same("accounts, laws, wide, tap, odds", x.many(0) * 10000 + x.many(1) * 1000 + x.many(2) * 100
                + x.many(3) * 10 + x.many(4), 50322);
        CHECK.same("hour", x.many(5), 7);
        CHECK.call(x, "its names", Check.nights(x, "mend e 2;"), 1, 0);
    }

    private static void nights() {
        DOC.promise(11, "Likewise the NIGHTS: how many ORDERS");
        SumsNightwatch x = Check.withBook(BOOK);
        Check.feed(x, "doze 2;any;!!!!!!!!!");
        CHECK.refused(x, "-1", x.nights(-1), 5);
        CHECK.refused(x, "21", x.nights(21), 5);
        CHECK.call(x, "the first 7: the tape was still there", x.nights(7), 1, 0);
        CHECK.refused(x, "empty then", x.nights(1), 5);
        CHECK.lives(x, 0, 1, 0, 2);
        Check.feed(x, "doze 2;any;!!!!!!!!!");
        CHECK.refused(x, "with 10", x.nights(20), 10);
        CHECK.refused(x, "empty then, too", x.nights(1), 5);
        CHECK.lives(x, 0, 1, 0, 2);
        CHECK.call(x, "end is none", Check.nights(x, "loop 2;when even;stop;end;end;"), 3, 0);
        CHECK.call(x, "of no bytes", x.nights(0), 0, 0);
        DOC.promise(11, "(5: above 300, too; 10).");
        Check.feed(x, "any;".repeat(20) + " ".repeat(260));
        CHECK.refused(x, "301", x.nights(301), 5);
        CHECK.refused(x, "340", x.nights(340), 5);
        CHECK.call(x, "300", x.nights(300), 20, 0);
        CHECK.refused(x, "10", Check.nights(x, "any"), 10);
    }

    private static void fault() {
        DOC.promise(12, "Of the latest of these with STATUS 0 or 10, what 0: the FAULT (0 without one), 1: its place (NONE"
                + " without).");
        SumsNightwatch x = new SumsNightwatch();
        Check.book(x, "wide 3;tap 0;");
        CHECK.fault(x, "a book", 4, 11);
        CHECK.refused(x, "with 5", x.book(1), 5);
        CHECK.refused(x, "with 5", x.nights(1), 5);
        CHECK.fault(x, "of the latest with 10", 4, 11);
        Check.nights(x, "any;end;");
        CHECK.fault(x, "nights", 2, 4);
        Check.nights(x, "any;");
        CHECK.fault(x, "nights without", 0, -1);
        Check.book(x, "!");
        CHECK.fault(x, "at place 0", 1, 0);
        x.book(0);
        CHECK.fault(x, "a book without", 0, -1);
        DOC.promise(12, "NONE for others, and ahead of any.");
        Check.book(x, "wide 9;");
        for (int other : new int[] {-1, 2, Integer.MIN_VALUE, Integer.MAX_VALUE}) {
            CHECK.same("what " + other, x.fault(other), -1);
        }
        SumsNightwatch y = new SumsNightwatch();
        CHECK.fault(y, "ahead of any", -1, -1);
        y.book(1);
        y.nights(301);
        CHECK.fault(y, "5 is none of them", -1, -1);
    }

    private static void many() {
        DOC.promise(13, "ACCOUNTS (what 0), LAWS (1); WIDE (2), TAP (3), ODDS (4); the HOUR (5); CELLS in all (6), how many are"
                + " WRONG (7), the set of those that are TAPPED (1 for CELL 0 ..) (8); how much was stolen (9); 1 if the BOOK is"
                + " EVEN, else 0 (10) (5).");
        SumsNightwatch x = Check.withBook(BOOK);
        x.step(4);
        x.step(2);
        x.steal(1);
        CHECK.many(x, 2, 2, 2, 3, 5, 2, 4, 2, 12, 2, 0);
        CHECK.refused(x, "what 11", x.many(11), 5);
        CHECK.refused(x, "what -1", x.many(-1), 5);
        SumsNightwatch most = Check.withBook("wide 5;account a debit 9 9 9 9 9;account b debit 9 9 9 9 9;"
                + "account c credit 9 9 9 9 9;account d credit 9 9 9 9 9;account e credit;watch e 4;");
        CHECK.same("even", most.many(10), 1);
        most.step(4);
        CHECK.same("the 25th is tapped", most.many(8), 1 << 24);
        for (int c = 0; c < 20; c++) {
            most.steal(c);
        }
        CHECK.same("stolen, wrong", most.many(9) * 100 + most.many(7), 18020);
    }

    private static void cellAndWatch() {
        DOC.promise(14, "Of a CELL, what 0: its DIGIT, 1: its TRUE one, 2: for how many HOURS it is TAPPED, 3: 1 if it is WRONG,"
                + " else 0 (2; 5).");
        SumsNightwatch x = Check.withBook(BOOK);
        x.step(4);
        int[][] due = {{2, 1, 0, 1}, {2, 2, 0, 0}, {0, 0, 0, 0}, {9, 9, 2, 0}};
        for (int c = 0; c < 4; c++) {
            for (int what = 0; what < 4; what++) {
                CHECK.call(x, "cell " + c + " " + what, x.cell(c, what), due[c][what], 0);
            }
        }
        CHECK.refused(x, "behind the last", x.cell(4, 0), 2);
        CHECK.refused(x, "-1", x.cell(-1, 4), 2);
        CHECK.refused(x, "what 4", x.cell(3, 4), 5);
        CHECK.refused(x, "what -1", x.cell(0, -1), 5);
        DOC.promise(15, "The CELL where the WATCHMAN is (8: no ACCOUNTS).");
        CHECK.call(x, "the last", x.watch(), 3, 0);
        x.step(0);
        CHECK.call(x, "1", x.watch(), 1, 0);
        x.step(2);
        CHECK.call(x, "the first", x.watch(), 0, 0);
        x.book(0);
        CHECK.refused(x, "no accounts", x.watch(), 8);
    }

    private static void accountAndLaw() {
        DOC.promise(16, "Of an ACCOUNT, what 0: 0 a debit, 1 a credit, 1: its SUM, 2: its SUM as it is TRUE, 3: its DIGITS"
                + " together (2; 5).");
        SumsNightwatch x = Check.withBook(BOOK);
        x.scratch(0, 9);
        x.scratch(3, 0);
        int[][] due = {{0, 92, 12, 11}, {1, 0, 9, 0}};
        for (int a = 0; a < 2; a++) {
            for (int what = 0; what < 4; what++) {
                CHECK.call(x, "account " + a + " " + what, x.account(a, what), due[a][what], 0);
            }
        }
        SumsNightwatch one = Check.withBook("wide 5;account a credit 1 2 3 4 5;");
        CHECK.call(one, "five digits", one.account(0, 3), 15, 0);
        SumsNightwatch five = Check.withBook("wide 1;account a debit 1;account b debit 2;account c debit 3;account d debit 4;"
                + "account e debit 9;");
        CHECK.call(five, "one digit of the fifth", five.account(4, 3), 9, 0);
        CHECK.refused(x, "behind the last", x.account(2, 0), 2);
        CHECK.refused(x, "-1", x.account(-1, 4), 2);
        CHECK.refused(x, "what 4", x.account(1, 4), 5);
        CHECK.refused(x, "what -1", x.account(0, -1), 5);
        DOC.promise(17, "Of a LAW, what 0: its first DIGIT, 1: its second, 2: its PLACE (0 always, 1 left, 2 right, 3 above,"
                + " 4 below), 3: the DIGIT there (0 without) (2; 5).");
        SumsNightwatch y = Check.withBook("law 0 becomes 9;law 1 becomes 8 left 9;law 2 becomes 7 right 8;"
                + "law 3 becomes 6 above 7;law 4 becomes 5 below 6;");
        int[] beside = {0, 9, 8, 7, 6};
        for (int law = 0; law < 5; law++) {
            int[] told = {law, 9 - law, law, beside[law]};
            for (int what = 0; what < 4; what++) {
                CHECK.call(y, "law " + law + " " + what, y.law(law, what), told[what], 0);
            }
        }
        CHECK.refused(y, "behind the last", y.law(5, 0), 2);
        CHECK.refused(y, "-1", y.law(-1, 4), 2);
        CHECK.refused(y, "what 4", y.law(4, 4), 5);
        CHECK.refused(y, "what -1", y.law(0, -1), 5);
        // A LAW that is struck leaves no DIGIT for one that stands there without a PLACE.
        y.repeal(4);
        y.enact(1, 1, 0, 5);
        CHECK.call(y, "0 without", y.law(4, 3), 0, 0);
    }

    private static void balanceAndCopy() {
        DOC.promise(18, "By how much SUMS of debits are more than those of credits; STATUS tells NONE from -1.");
        SumsNightwatch x = Check.withBook("wide 1;account a debit 4;account b credit 5;account c debit;account d credit;");
        CHECK.call(x, "-1", x.balance(), -1, 0);
        x.scratch(2, 1);
        CHECK.call(x, "0", x.balance(), 0, 0);
        x.scratch(3, 9);
        CHECK.call(x, "-9", x.balance(), -9, 0);
        x.book(0);
        CHECK.call(x, "no accounts", x.balance(), 0, 0);
        DOC.promise(19, "DIGITS of all CELLS come to a TRAY: how many (1; 3; 4).");
        SumsNightwatch y = Check.withBook(BOOK);
        y.scratch(2, 7);
        for (int sort = 0; sort < 4; sort++) {
            y.tray(sort, sort, 5);
            y.write(sort, 4, 6);
            CHECK.call(y, "sort " + sort, y.copyDigits(sort), 4, 0);
            CHECK.same("those behind stay", Check.row(y, sort, 5), 12796);
        }
        y.tray(0, 0, 4);
        CHECK.call(y, "just enough", y.copyDigits(0), 4, 0);
        y.tray(0, 0, 3);
        CHECK.refused(y, "one too few", y.copyDigits(0), 4);
        CHECK.same("none came", Check.row(y, 0, 3), 0);
        y.tray(0, 0, 0);
        CHECK.refused(y, "of none", y.copyDigits(0), 4);
        CHECK.refused(y, "no tray", y.copyDigits(4), 1);
        y.book(0);
        CHECK.call(y, "no cells", y.copyDigits(0), 0, 0);
        SumsNightwatch z = new SumsNightwatch();
        CHECK.refused(z, "missing, though there are no cells", z.copyDigits(0), 3);
        Check.book(z, "wide 5;account a debit 1;account b debit 2;account c debit 3;account d debit 4;account e debit 0 0 0 0 5;");
        z.tray(0, 0, 25);
        CHECK.call(z, "25", z.copyDigits(0), 25, 0);
        CHECK.call(z, "the 25th", z.read(0, 24), 5, 0);
    }

    private static void step() {
        DOC.promise(20, "A STEP (0 to 4): the CELL where he is then (5; 7: above HOUR 9,999; 8: no ACCOUNTS; 9: out of the BOOK).");
        SumsNightwatch x = Check.withBook(BOOK);
        int[] ways = {0, 2, 1, 3, 4};
        int[] due = {1, 0, 2, 3, 3};
        for (int i = 0; i < 5; i++) {
            CHECK.call(x, "way " + ways[i], x.step(ways[i]), due[i], 0);
        }
        CHECK.refused(x, "-1", x.step(-1), 5);
        CHECK.refused(x, "5", x.step(5), 5);
        CHECK.refused(x, "down", x.step(1), 9);
        CHECK.refused(x, "right", x.step(3), 9);
        Check.dozeTo(x, 9998);
        CHECK.call(x, "to 9,999", x.step(4), 3, 0);
        CHECK.refused(x, "above", x.step(4), 7);
        CHECK.refused(x, "above, and out of the book", x.step(1), 7);
        CHECK.refused(x, "above, and no way", x.step(5), 5);
        x.book(0);
        CHECK.refused(x, "no accounts", x.step(4), 8);
    }

    private static void doze() {
        DOC.promise(21, "So many DOZES (1 to 99): how many CELLS are WRONG then (5; 7: above HOUR 9,999).");
        SumsNightwatch x = Check.withBook("wide 1;account a debit 1;law 1 becomes 2;law 2 becomes 3;law 3 becomes 1;");
        CHECK.call(x, "1", x.doze(1), 1, 0);
        CHECK.call(x, "2", x.doze(2), 0, 0);
        CHECK.call(x, "99 is 33 times around", x.doze(99), 0, 0);
        CHECK.call(x, "98 is not", x.doze(98), 1, 0);
        CHECK.refused(x, "0", x.doze(0), 5);
        CHECK.refused(x, "100", x.doze(100), 5);
        CHECK.same("hour", x.many(5), 200);
        Check.dozeTo(x, 9901);
        CHECK.refused(x, "99 above", x.doze(99), 7);
        CHECK.same("none of them went by", x.many(5), 9901);
        // 9,999 is a multiple of 3.
        CHECK.call(x, "98 to 9,999", x.doze(98), 0, 0);
        CHECK.refused(x, "1 above", x.doze(1), 7);
        CHECK.refused(x, "100 above", x.doze(100), 5);
        SumsNightwatch y = new SumsNightwatch();
        CHECK.call(y, "no cells", y.doze(99), 0, 0);
    }

    private static void mendAndSteal() {
        DOC.promise(22, "MEND: the DIGIT that stood there (2; 9: it is not WRONG).");
        SumsNightwatch x = Check.withBook(BOOK);
        CHECK.refused(x, "not wrong", x.mend(0), 9);
        x.scratch(0, 0);
        x.scratch(3, 8);
        CHECK.call(x, "the first", x.mend(0), 0, 0);
        CHECK.call(x, "the last", x.mend(3), 8, 0);
        CHECK.refused(x, "not wrong any more", x.mend(3), 9);
        CHECK.refused(x, "no such", x.mend(4), 2);
        CHECK.refused(x, "no such", x.mend(-1), 2);
        CHECK.same("digits", Check.digits(x), 1209);
        CHECK.same("no hour went by", x.many(5), 0);
        DOC.promise(23, "STEAL: how much (2; 9: 0 stands there).");
        CHECK.call(x, "the first", x.steal(0), 1, 0);
        CHECK.call(x, "the last", x.steal(3), 9, 0);
        CHECK.refused(x, "0, stolen", x.steal(0), 9);
        CHECK.refused(x, "0, told", x.steal(2), 9);
        CHECK.refused(x, "no such", x.steal(4), 2);
        CHECK.refused(x, "no such", x.steal(-1), 2);
        CHECK.same("in all", x.many(9), 10);
        // It may be 0 and WRONG, or not 0 and not WRONG.
        CHECK.call(x, "0 is mended", x.mend(0), 0, 0);
        CHECK.call(x, "and stolen again", x.steal(0), 1, 0);
        CHECK.same("in all", x.many(9), 11);
    }

    private static void scratchAndVouch() {
        DOC.promise(24, "A CELL gets a DIGIT (0 to 9): which it had (2; 5; 9: it has it).");
        SumsNightwatch x = Check.withBook(BOOK);
        CHECK.call(x, "0", x.scratch(0, 0), 1, 0);
        CHECK.call(x, "9", x.scratch(0, 9), 0, 0);
        CHECK.refused(x, "it has it", x.scratch(0, 9), 9);
        CHECK.refused(x, "10", x.scratch(0, 10), 5);
        CHECK.refused(x, "-1", x.scratch(0, -1), 5);
        CHECK.refused(x, "no such", x.scratch(4, 10), 2);
        CHECK.refused(x, "no such", x.scratch(-1, 1), 2);
        CHECK.call(x, "its true one", x.scratch(0, 1), 9, 0);
        CHECK.same("wrong, stolen, hour", x.many(7) + x.many(9) + x.many(5), 0);
        DOC.promise(25, "What stands in a CELL is TRUE from now on: its TRUE DIGIT ahead (2; 9: it is not WRONG).");
        CHECK.refused(x, "not wrong", x.vouch(0), 9);
        x.scratch(0, 0);
        x.scratch(3, 8);
        CHECK.call(x, "the first", x.vouch(0), 1, 0);
        CHECK.call(x, "the last", x.vouch(3), 9, 0);
        CHECK.refused(x, "not wrong any more", x.vouch(0), 9);
        CHECK.refused(x, "no such", x.vouch(4), 2);
        CHECK.refused(x, "no such", x.vouch(-1), 2);
        CHECK.same("digits", Check.digits(x), 208);
        CHECK.same("true", x.account(0, 2) * 100 + x.account(1, 2), 208);
    }

    private static void enact() {
        DOC.promise(26, "A LAW more, the last: a DIGIT becomes another one, in a PLACE (0 to 4) a DIGIT (0 to 9; not looked at"
                + " for 0): its number (5; 7: an 11th).");
        SumsNightwatch x = Check.withBook("wide 1;account a debit 1;law 1 becomes 5;");
        CHECK.call(x, "the second", x.enact(1, 6, 0, -1), 1, 0);
        CHECK.call(x, "the first bears still", x.bears(0), 0, 0);
        CHECK.call(x, "not looked at", x.enact(0, 9, 0, Integer.MAX_VALUE), 2, 0);
        CHECK.same("0 without", x.law(1, 3) * 10 + x.law(2, 3), 0);
        for (int place = 1; place <= 4; place++) {
            CHECK.refused(x, "beside 10", x.enact(1, 1, place, 10), 5);
            CHECK.refused(x, "beside -1", x.enact(1, 1, place, -1), 5);
            CHECK.call(x, "place " + place, x.enact(9, 0, place, place % 2 * 9), 2 + place, 0);
        }
        int[][] bad = {{-1, 0, 0}, {10, 0, 0}, {0, -1, 0}, {0, 10, 0}, {0, 0, -1}, {0, 0, 5}};
        for (int[] b : bad) {
            CHECK.refused(x, "5", x.enact(b[0], b[1], b[2], 0), 5);
        }
        for (int number = 7; number < 10; number++) {
            CHECK.call(x, "law " + number, x.enact(1, 7, 0, 0), number, 0);
        }
        CHECK.refused(x, "an 11th", x.enact(1, 7, 0, 0), 7);
        CHECK.refused(x, "an 11th that can't be", x.enact(1, 7, 1, 10), 5);
        CHECK.same("ten", x.many(1), 10);
        x.repeal(9);
        CHECK.call(x, "a tenth again", x.enact(1, 7, 0, 0), 9, 0);
    }

    private static void repealAndRule() {
        DOC.promise(27, "A LAW is struck; those behind it are a number less: how many are left (2).");
        SumsNightwatch x = new SumsNightwatch();
        for (int i = 0; i < 10; i++) {
            x.enact(i, 9 - i, i % 5, i);
        }
        CHECK.call(x, "the last of ten", x.repeal(9), 9, 0);
        CHECK.refused(x, "it is gone", x.repeal(9), 2);
        CHECK.call(x, "the first", x.repeal(0), 8, 0);
        CHECK.call(x, "one between", x.repeal(3), 7, 0);
        CHECK.refused(x, "-1", x.repeal(-1), 2);
        int[] left = {1, 2, 3, 5, 6, 7, 8};
        for (int law = 0; law < 7; law++) {
            int i = left[law];
            CHECK.same("law " + law, x.law(law, 0) * 1000 + x.law(law, 1) * 100 + x.law(law, 2) * 10 + x.law(law, 3),
                    i * 1000 + (9 - i) * 100 + i % 5 * 10 + (i % 5 == 0 ? 0 : i));
        }
        for (int many = 6; many >= 0; many--) {
            CHECK.call(x, "the first again", x.repeal(0), many, 0);
        }
        CHECK.refused(x, "none is left", x.repeal(0), 2);
        DOC.promise(28, "TAP (what 3: 1 to 9), ODDS (4: 0 to 16) from now on (5).");
        SumsNightwatch y = Check.withBook("wide 2;tap 5;account a debit;");
        y.step(4);
        CHECK.call(y, "tap 1", y.rule(3, 1), true, 0);
        CHECK.same("what is tapped already is so still", y.cell(0, 2), 4);
        y.step(3);
        CHECK.same("for one hour, which is over", y.cell(1, 2), 0);
        CHECK.call(y, "tap 9", y.rule(3, 9), true, 0);
        y.step(4);
        CHECK.same("for nine, one of which is over", y.cell(1, 2), 8);
        CHECK.refused(y, "tap 0", y.rule(3, 0), 5);
        CHECK.refused(y, "tap 10", y.rule(3, 10), 5);
        CHECK.call(y, "odds 0", y.rule(4, 0), true, 0);
        y.dozes(1, 1);
        CHECK.fraction(y, "never", 0, 1);
        CHECK.call(y, "odds 16", y.rule(4, 16), true, 0);
        y.dozes(1, 1);
        CHECK.fraction(y, "ever", 1, 1);
        CHECK.refused(y, "odds -1", y.rule(4, -1), 5);
        CHECK.refused(y, "odds 17", y.rule(4, 17), 5);
        for (int what : new int[] {-1, 0, 1, 2, 5, 6}) {
            CHECK.refused(y, "what " + what, y.rule(what, 2), 5);
        }
        CHECK.same("tap, odds", y.many(3) * 100 + y.many(4), 916);
    }
}
