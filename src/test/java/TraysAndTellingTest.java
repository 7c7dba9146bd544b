/** Promises 1 to 19: a new object, STATUS, FRACTION, TRAYS, texts, and what is told of a BOOK. */
public final class TraysAndTellingTest {
    static final String BOOK = "wide 3;tap 2;odds 4;account cash debit 1 7 0;account rent credit 0 9 5;"
            + "account wine credit 2 4;law 7 becomes 1 right 0;law 0 becomes 9 left 1;law 9 becomes 8;"
            + "law 4 becomes 5 above 9;watch rent 2;";

    private static final Check CHECK = new Check();

    public static void main(String[] args) {
        newObject();
        statusAndFraction();
        tray();
        writeAndRead();
        pour();
        feed();
        book();
        nights();
        fault();
        many();
        cellAndWatch();
        accountAndLaw();
        balance();
        copyDigits();
        CHECK.end("TraysAndTellingTest");
    }

    private static void newObject() {
        CHECK.part("promise 1");
        SumsNightwatch x = new SumsNightwatch();
        CHECK.same("status", x.status(), 0);
        CHECK.fraction(x, "new", 0, 1);
        CHECK.fault(x, "new", -1, -1);
        CHECK.many(x, 0, 0, 3, 2, 2, 0, 0, 0, 0, 0, 1);
        for (int t = 0; t < 4; t++) {
            CHECK.refused(x, "read " + t, x.read(t, 0), 3);
        }
        CHECK.refused(x, "back", x.back(), 8);
        CHECK.refused(x, "live", x.live(1), 8);
        CHECK.refused(x, "lived", x.lived(0), 8);
        CHECK.refused(x, "book beyond an empty tape", x.book(1), 5);
        CHECK.same("NONE", SumsNightwatch.NONE, -1);
    }

    private static void statusAndFraction() {
        CHECK.part("promises 2, 3, 4");
        SumsNightwatch x = Check.withBook("wide 2;account a debit 1 2;account b credit 3 4;odds 4;");
        x.scratch(0, 9);
        CHECK.call(x, "shame", x.shame(), true, 0);
        CHECK.fraction(x, "shame", 1, 4);
        CHECK.refused(x, "mend", x.mend(9), 2);
        // These have no STATUS: that of the mend stays.
        x.fault(7);
        x.feed(0, 0, 0, 0, 0);
        x.top();
        x.bottom();
        CHECK.same("status", x.status(), 2);
        CHECK.same("status again", x.status(), 2);
        CHECK.refused(x, "dozes", x.dozes(13, 0), 5);
        CHECK.fraction(x, "refused", 1, 4);
        CHECK.call(x, "dozes", x.dozes(2, 1), true, 0);
        // 1 - (12/16)^2 = 7/16
        CHECK.fraction(x, "dozes", 7, 16);
        x.mend(0);
        CHECK.call(x, "shame of none", x.shame(), true, 0);
        CHECK.fraction(x, "shame of none", 0, 1);
    }

    private static void tray() {
        CHECK.part("promise 5");
        SumsNightwatch x = new SumsNightwatch();
        CHECK.call(x, "tray", x.tray(0, 3, 60), true, 0);
        CHECK.call(x, "write", x.write(0, 59, 7), true, 0);
        CHECK.refused(x, "61", x.tray(0, 3, 61), 5);
        CHECK.refused(x, "below 0", x.tray(0, 3, -1), 6);
        CHECK.refused(x, "tray 4", x.tray(4, 0, 1), 1);
        CHECK.refused(x, "tray -1", x.tray(-1, 0, 1), 1);
        CHECK.refused(x, "sort 4", x.tray(0, 4, 61), 1);
        CHECK.refused(x, "sort -1", x.tray(0, -1, -1), 1);
        CHECK.call(x, "nothing changed", x.read(0, 59), 7, 0);
        CHECK.call(x, "anew", x.tray(0, 0, 60), true, 0);
        CHECK.call(x, "all 0", x.read(0, 59), 0, 0);
        CHECK.call(x, "of none", x.tray(1, 2, 0), true, 0);
        CHECK.refused(x, "read", x.read(1, 0), 4);
        CHECK.refused(x, "greatest", x.tray(3, 3, Integer.MAX_VALUE), 5);
        CHECK.refused(x, "least", x.tray(3, 3, Integer.MIN_VALUE), 6);
        CHECK.refused(x, "still missing", x.read(3, 0), 3);
    }

    private static void writeAndRead() {
        CHECK.part("promises 6, 7");
        SumsNightwatch x = new SumsNightwatch();
        for (int sort = 0; sort < 4; sort++) {
            x.tray(sort, sort, 3);
            x.write(sort, 0, 0x123456789abcdef0L);
            x.write(sort, 1, -1);
            x.write(sort, 2, 1L << (8 << sort) - 1);
        }
        CHECK.call(x, "8 bits", x.read(0, 0), (byte) 0xf0, 0);
        CHECK.call(x, "16 bits", x.read(1, 0), (short) 0xdef0, 0);
        CHECK.call(x, "32 bits", x.read(2, 0), 0x9abcdef0, 0);
        CHECK.call(x, "64 bits", x.read(3, 0), 0x123456789abcdef0L, 0);
        CHECK.call(x, "-1, not NONE", x.read(0, 1), -1, 0);
        CHECK.call(x, "sign of 8", x.read(0, 2), -128, 0);
        CHECK.call(x, "sign of 16", x.read(1, 2), -32768, 0);
        CHECK.call(x, "sign of 32", x.read(2, 2), Integer.MIN_VALUE, 0);
        CHECK.call(x, "sign of 64", x.read(3, 2), Long.MIN_VALUE, 0);
        CHECK.refused(x, "write 4", x.write(0, 3, 1), 4);
        CHECK.refused(x, "write -1", x.write(0, -1, 1), 4);
        CHECK.refused(x, "read 4", x.read(0, 3), 4);
        CHECK.refused(x, "read -1", x.read(0, -1), 4);
        CHECK.refused(x, "no tray", x.read(4, 0), 1);
        CHECK.refused(x, "no tray", x.write(-1, 9, 0), 1);
        SumsNightwatch y = new SumsNightwatch();
        CHECK.refused(y, "missing", y.write(2, -1, 0), 3);
        CHECK.refused(y, "missing", y.read(2, 99), 3);
    }

    private static void pour() {
        CHECK.part("promise 8");
        SumsNightwatch x = new SumsNightwatch();
        x.tray(0, 1, 6);
        x.tray(1, 1, 4);
        x.tray(2, 2, 4);
        for (int i = 0; i < 6; i++) {
            x.write(0, i, i + 1);
        }
        CHECK.call(x, "to another", x.pour(0, 1, 1, 2, 2), true, 0);
        CHECK.same("0 0 2 3", x.read(1, 2) * 10 + x.read(1, 3), 23);
        CHECK.same("those ahead stay", x.read(1, 0) + x.read(1, 1), 0);
        CHECK.call(x, "to itself, upward", x.pour(0, 0, 0, 2, 4), true, 0);
        CHECK.same("121234", Check.row(x, 0, 6), 121234);
        CHECK.call(x, "to itself, downward", x.pour(0, 1, 0, 0, 5), true, 0);
        CHECK.same("212344", Check.row(x, 0, 6), 212344);
        CHECK.call(x, "none", x.pour(0, 6, 1, 4, 0), true, 0);
        CHECK.refused(x, "no tray", x.pour(4, 0, 3, 0, -1), 1);
        CHECK.refused(x, "no tray to", x.pour(3, 0, -1, 0, 1), 1);
        CHECK.refused(x, "missing", x.pour(3, 0, 2, 0, -1), 3);
        CHECK.refused(x, "missing to", x.pour(2, 0, 3, 0, 1), 3);
        CHECK.refused(x, "unlike ahead of below 0", x.pour(0, -1, 2, 0, -1), 11);
        CHECK.refused(x, "below 0 ahead of places", x.pour(0, -1, 1, 0, -1), 6);
        CHECK.refused(x, "from below", x.pour(0, -1, 1, 0, 1), 4);
        CHECK.refused(x, "to below", x.pour(0, 0, 1, -1, 1), 4);
        CHECK.refused(x, "too few there", x.pour(0, 5, 1, 0, 2), 4);
        CHECK.refused(x, "too few here", x.pour(0, 0, 1, 3, 2), 4);
        CHECK.refused(x, "beyond all", x.pour(0, Integer.MAX_VALUE, 1, 0, Integer.MAX_VALUE), 4);
        CHECK.same("nothing changed", Check.row(x, 0, 6), 212344);
    }

    private static void feed() {
        CHECK.part("promise 9");
        SumsNightwatch x = new SumsNightwatch();
        for (int i = 1; i <= 45; i++) {
            CHECK.same("feed " + i, x.feed(0x20202020, 0x20202020, 0x20202020, 0x20202020, 0x20202020), 20 * i);
        }
        CHECK.same("more than 900", x.feed(0, 0, 0, 0, 0), -1);
        CHECK.same("status", x.status(), 0);
        CHECK.call(x, "900 blanks", x.book(900), 0, 0);
        CHECK.same("emptied", x.feed(0x77696465, 0x20343b74, 0x61702038, 0x3b202020, 0x20202020), 20);
        CHECK.call(x, "wide 4;tap 8;", x.book(20), 0, 0);
        CHECK.same("highest byte first", x.many(2) * 10 + x.many(3), 48);
    }

    private static void book() {
        CHECK.part("promise 10");
        SumsNightwatch x = new SumsNightwatch();
        int n = Check.feed(x, BOOK);
        CHECK.refused(x, "below 0", x.book(-1), 5);
        CHECK.refused(x, "beyond the tape", x.book(201), 5);
        CHECK.call(x, "the tape is still there", x.book(n), 3, 0);
        CHECK.refused(x, "empty then", x.book(1), 5);
        x.step(4);
        x.steal(4);
        x.mark();
        Check.nights(x, "any;");
        Check.feed(x, "account a debit 5;wide 2;");
        CHECK.call(x, "only the first 18 bytes", x.book(18), 1, 0);
        CHECK.many(x, 1, 0, 3, 2, 2, 0, 3, 0, 0, 0, 0);
        CHECK.same("true as told", x.cell(0, 1), 5);
        CHECK.same("watch", x.watch(), 0);
        CHECK.refused(x, "no nights", x.live(0), 8);
        CHECK.same("marks stay", x.mark(), 2);
        CHECK.call(x, "an empty one", x.book(0), 0, 0);
        CHECK.same("no accounts", x.many(0), 0);
        Check.feed(x, "wide 4;account a debit 9 9 9 9;");
        CHECK.call(x, "cut off", x.book(7), 0, 0);
        CHECK.same("wide", x.many(2), 4);
    }

    private static void nights() {
        CHECK.part("promise 11");
        SumsNightwatch x = Check.withBook(BOOK);
        Check.feed(x, "any;" + " ".repeat(316));
        CHECK.refused(x, "below 0", x.nights(-1), 5);
        CHECK.refused(x, "above 300", x.nights(301), 5);
        CHECK.call(x, "300", x.nights(300), 1, 0);
        CHECK.refused(x, "the tape is empty then", x.nights(1), 5);
        CHECK.call(x, "more", Check.nights(x, "any;when even;loop 3;any;end;end;stop;"), 5, 0);
        CHECK.refused(x, "faulty", Check.nights(x, "any;any"), 10);
        CHECK.call(x, "none of them", x.nights(0), 0, 0);
        Check.feed(x, "any;any;");
        CHECK.call(x, "the first 4", x.nights(4), 1, 0);
        CHECK.call(x, "lived", x.live(0), 1, 0);
    }

    private static void fault() {
        CHECK.part("promise 12");
        SumsNightwatch x = new SumsNightwatch();
        CHECK.refused(x, "book", x.book(5), 5);
        CHECK.fault(x, "ahead of any", -1, -1);
        Check.book(x, "wide 9;");
        CHECK.fault(x, "book", 4, 5);
        CHECK.refused(x, "book", x.book(5), 5);
        CHECK.fault(x, "as it was", 4, 5);
        CHECK.same("others", x.fault(2), -1);
        CHECK.same("others", x.fault(-1), -1);
        Check.nights(x, "stop");
        CHECK.fault(x, "nights", 2, 4);
        x.nights(0);
        CHECK.fault(x, "without", 0, -1);
        CHECK.same("others", x.fault(2), -1);
        Check.book(x, "?");
        CHECK.fault(x, "book again", 1, 0);
        x.book(0);
        CHECK.fault(x, "without", 0, -1);
    }

    private static void many() {
        CHECK.part("promise 13");
        SumsNightwatch x = Check.withBook(BOOK);
        x.step(4);
        // Tapped for one HOUR more: CELL 5. Drifted: 1 (7 to 1), 4 (9 to 8), 7 (4 to 5).
        x.steal(5);
        CHECK.many(x, 3, 4, 3, 2, 4, 1, 9, 4, 32, 5, 0);
        CHECK.refused(x, "many 11", x.many(11), 5);
        CHECK.refused(x, "many -1", x.many(-1), 5);
        SumsNightwatch even = Check.withBook("wide 1;account a debit 3;account b debit 1;account c credit 4;");
        CHECK.same("even", even.many(10), 1);
        SumsNightwatch wide = Check.withBook("wide 5;account a debit;account b debit;account c debit;"
                + "account d debit;account e debit;watch e 4;");
        wide.step(4);
        CHECK.same("the last of 25", wide.many(8), 1 << 24);
        CHECK.same("cells", wide.many(6), 25);
    }

    private static void cellAndWatch() {
        CHECK.part("promises 14, 15");
        SumsNightwatch x = Check.withBook(BOOK);
        CHECK.call(x, "watch", x.watch(), 5, 0);
        x.rule(3, 9);
        x.step(2);
        x.scratch(4, 2);
        CHECK.call(x, "digit", x.cell(4, 0), 2, 0);
        CHECK.call(x, "true", x.cell(4, 1), 9, 0);
        CHECK.call(x, "tapped", x.cell(4, 2), 8, 0);
        CHECK.call(x, "wrong", x.cell(4, 3), 1, 0);
        CHECK.call(x, "not wrong", x.cell(0, 3), 0, 0);
        CHECK.call(x, "watch", x.watch(), 4, 0);
        CHECK.refused(x, "what", x.cell(4, 4), 5);
        CHECK.refused(x, "what", x.cell(4, -1), 5);
        CHECK.refused(x, "cell ahead of what", x.cell(9, 4), 2);
        CHECK.refused(x, "cell", x.cell(-1, 0), 2);
        x.book(0);
        CHECK.refused(x, "no accounts", x.watch(), 8);
    }

    private static void accountAndLaw() {
        CHECK.part("promises 16, 17");
        SumsNightwatch x = Check.withBook(BOOK);
        x.scratch(3, 4);
        int[][] due = {{0, 170, 170, 8}, {1, 495, 95, 18}, {1, 240, 240, 6}};
        for (int a = 0; a < 3; a++) {
            for (int what = 0; what < 4; what++) {
                CHECK.call(x, "account " + a + " " + what, x.account(a, what), due[a][what], 0);
            }
        }
        CHECK.refused(x, "what", x.account(0, 4), 5);
        CHECK.refused(x, "what", x.account(0, -1), 5);
        CHECK.refused(x, "account", x.account(3, 9), 2);
        CHECK.refused(x, "account", x.account(-1, 0), 2);
        int[][] laws = {{7, 1, 2, 0}, {0, 9, 1, 1}, {9, 8, 0, 0}, {4, 5, 3, 9}};
        for (int law = 0; law < 4; law++) {
            for (int what = 0; what < 4; what++) {
                CHECK.call(x, "law " + law + " " + what, x.law(law, what), laws[law][what], 0);
            }
        }
        CHECK.refused(x, "what", x.law(0, 4), 5);
        CHECK.refused(x, "what", x.law(0, -1), 5);
        CHECK.refused(x, "law", x.law(4, 9), 2);
        CHECK.refused(x, "law", x.law(-1, 0), 2);
        SumsNightwatch below = Check.withBook("law 1 becomes 2 below 3;");
        CHECK.same("below", below.law(0, 2), 4);
        SumsNightwatch most = Check.withBook("wide 5;account a debit 9 9 9 9 9;");
        CHECK.same("the greatest sum", most.account(0, 1), 99999);
    }

    private static void balance() {
        CHECK.part("promise 18");
        SumsNightwatch x = Check.withBook(BOOK);
        CHECK.call(x, "170 - 95 - 240", x.balance(), -165, 0);
        SumsNightwatch y = Check.withBook("wide 1;account a debit 3;account b credit 4;");
        x.book(-1);
        CHECK.call(y, "-1 is not NONE", y.balance(), -1, 0);
        CHECK.call(y, "not even", y.many(10), 0, 0);
    }

    private static void copyDigits() {
        CHECK.part("promise 19");
        SumsNightwatch x = Check.withBook(BOOK);
        x.tray(0, 0, 10);
        x.write(0, 9, 5);
        x.scratch(8, 6);
        CHECK.call(x, "copyDigits", x.copyDigits(0), 9, 0);
        CHECK.same("digits", Check.row(x, 0, 10), 1700952465L);
        x.tray(1, 3, 9);
        CHECK.call(x, "just enough", x.copyDigits(1), 9, 0);
        x.tray(1, 3, 8);
        CHECK.refused(x, "too few", x.copyDigits(1), 4);
        CHECK.same("nothing written", Check.row(x, 1, 8), 0);
        CHECK.refused(x, "missing", x.copyDigits(3), 3);
        CHECK.refused(x, "no tray", x.copyDigits(4), 1);
        CHECK.refused(x, "no tray", x.copyDigits(-1), 1);
        x.book(0);
        x.tray(2, 0, 0);
        CHECK.call(x, "none", x.copyDigits(2), 0, 0);
    }
}
