import java.util.List;

/** Terms, part ==== 1: TRAYS, and the text of a BOOK. In a text that has a FAULT a ^ stands where it is, and is not fed. */
public final class EdgesOfBooksTest {
    private static final Check CHECK = new Check();
    private static final Doc DOC = new Doc(CHECK);
    private static final List<String> SET_WORDS = List.of("wide", "tap", "odds", "account", "debit", "credit", "law",
            "becomes", "left", "right", "above", "below", "watch", "step", "up", "down", "stay", "doze", "mend", "steal",
            "any", "when", "wrong", "digit", "even", "loop", "end", "stop");
    private static final String FIVE = "account a debit;account b credit;account c debit;account d debit;account e debit;";
    private static final String TEN = "law 1 becomes 2;".repeat(10);

    public static void main(String[] args) {
        trays();
        cut();
        length();
        tokens();
        kindsOfTokens();
        parts();
        names();
        oneName();
        wideTapOdds();
        accounts();
        laws();
        watch();
        numbered();
        firstFault();
        faultsOneAndTwo();
        faultsThreeAndFour();
        faultsFiveAndSix();
        taken();
        DOC.endOfTerms(1);
        CHECK.end("EdgesOfBooksTest");
    }

    private static void faulty(int fault, String marked) {
        SumsNightwatch x = Check.withBook("account old debit 7;");
        CHECK.refused(x, "book '" + marked + "'", Check.book(x, marked.replace("^", "")), 10);
        CHECK.fault(x, "book '" + marked + "'", fault, marked.indexOf('^'));
        CHECK.same("the old one's sum", x.account(0, 1), 700);
    }

    private static SumsNightwatch good(int accounts, String text) {
        SumsNightwatch x = new SumsNightwatch();
        CHECK.call(x, "book '" + text + "'", Check.book(x, text), accounts, 0);
        CHECK.fault(x, "book '" + text + "'", 0, -1);
        return x;
    }

    private static void trays() {
        DOC.terms(1, "5, 6, 7", "TRAYS, 0 to 3, are MISSING at first, or rows of numbers of 8 bits (sort 0), 16 (1), 32 (2)"
                + " or 64 (3), with sign;");
        SumsNightwatch x = new SumsNightwatch();
        for (int tray : new int[] {0, 1, 2, 3}) {
            CHECK.refused(x, "read " + tray, x.read(tray, 0), 3);
            CHECK.refused(x, "write " + tray, x.write(tray, 0, 1), 3);
        }
        for (int none : new int[] {-1, 4, Integer.MIN_VALUE, Integer.MAX_VALUE}) {
            CHECK.refused(x, "read " + none, x.read(none, 0), 1);
            CHECK.refused(x, "tray " + none, x.tray(none, 0, 1), 1);
            CHECK.refused(x, "tray 0 of sort " + none, x.tray(0, none, 1), 1);
        }
        CHECK.refused(x, "tray 0 is still missing", x.read(0, 0), 3);
        for (int sort = 0; sort < 4; sort++) {
            long half = 1L << (8 << sort) - 1;
            CHECK.call(x, "tray of sort " + sort, x.tray(sort, sort, 2), true, 0);
            x.write(sort, 0, -half);
            x.write(sort, 1, half - 1);
            CHECK.call(x, "least of sort " + sort, x.read(sort, 0), -half, 0);
            CHECK.call(x, "greatest of sort " + sort, x.read(sort, 1), half - 1, 0);
        }
    }

    private static void cut() {
        DOC.terms(1, "6, 7", "what is written is cut to these.");
        SumsNightwatch x = new SumsNightwatch();
        for (int sort = 0; sort < 3; sort++) {
            long all = 1L << (8 << sort);
            long half = all / 2;
            long[] given = {half, -half - 1, all, all - 1, -all, all + 5, Long.MAX_VALUE, Long.MIN_VALUE};
            long[] due = {-half, half - 1, 0, -1, 0, 5, -1, 0};
            x.tray(sort, sort, 1);
            for (int i = 0; i < given.length; i++) {
                CHECK.call(x, "write", x.write(sort, 0, given[i]), true, 0);
                CHECK.call(x, given[i] + " in sort " + sort, x.read(sort, 0), due[i], 0);
            }
        }
        x.tray(3, 3, 1);
        for (long whole : new long[] {1L << 32, Long.MAX_VALUE, Long.MIN_VALUE, -1}) {
            x.write(3, 0, whole);
            CHECK.call(x, "64 bits", x.read(3, 0), whole, 0);
        }
    }

    private static void length() {
        DOC.terms(1, "9, 10", "A BOOK is a TEXT of at most 900 bytes.");
        String text = "wide 4" + " ".repeat(893) + ";";
        SumsNightwatch x = good(0, text);
        CHECK.same("the 900th byte is read", x.many(2), 4);
        CHECK.same("900 are fed", Check.feed(x, text), 900);
        CHECK.refused(x, "901", x.book(901), 5);
        CHECK.refused(x, "899, without the ;", x.book(899), 10);
        CHECK.fault(x, "899", 2, 899);
        // A WORD or a NUMBER that goes to the 900th byte ends there.
        faulty(2, " ".repeat(896) + "wide^");
        faulty(2, "tap" + " ".repeat(896) + "9^");
    }

    private static void tokens() {
        DOC.terms(1, "10", "TOKENS, as long as they go, between them blanks (10, 32):");
        SumsNightwatch x = good(1, "\n wide5;account a debit1 2\n3 ;law1becomes2left3;tap\n\n 9\n;  ");
        CHECK.same("wide, tap", x.many(2) * 10 + x.many(3), 59);
        CHECK.same("digits", x.account(0, 1), 12300);
        CHECK.same("law", x.law(0, 0) * 1000 + x.law(0, 1) * 100 + x.law(0, 2) * 10 + x.law(0, 3), 1213);
        good(0, "");
        good(0, " ");
        good(0, "\n");
        faulty(2, "^wi de 3;");
        faulty(2, "^taptap 3;");
        faulty(2, "tap 1 ^2;");
        faulty(2, "tap 1\n^2;");
        faulty(4, "tap ^12;");
        for (char other : new char[] {0, 9, 11, 12, 13, 31, 33, 160}) {
            faulty(1, "tap^" + other + "3;");
        }
    }

    private static void kindsOfTokens() {
        DOC.terms(1, "10", "WORDS (small letters), NUMBERS (1 to 4 digits), SIGNS ; < > =");
        for (int b = 0; b < 256; b++) {
            char sign = (char) b;
            boolean begins = sign >= 'a' && sign <= 'z' || sign >= '0' && sign <= '9' || ";<>=".indexOf(sign) >= 0;
            if (b == 10 || b == 32) {
                good(0, "" + sign);
            } else {
                // Not by faulty(): the sign may be a ^ itself.
                SumsNightwatch x = new SumsNightwatch();
                CHECK.refused(x, "byte " + b, Check.book(x, "" + sign), 10);
                CHECK.fault(x, "byte " + b, begins ? 2 : 1, 0);
            }
        }
        for (char other : new char[] {'`', '{', '@', 'A', 'Z', '[', '/', ':', '-'}) {
            faulty(1, "account a^" + other + "b debit;");
            faulty(1, "account a debit 1^" + other + "2;");
        }
        for (String nine : new String[] {"9", "09", "009", "0009"}) {
            CHECK.same(nine, good(0, "tap " + nine + ";").many(3), 9);
        }
        faulty(1, "tap ^00009;");
        faulty(4, "tap ^9999;");
        faulty(1, "tap ^99999;");
        faulty(1, "tap ^123456789012345678901234567890;");
    }

    private static void parts() {
        DOC.terms(1, "10", "BOOK: {PART}. PART: wide NUMBER ; or tap NUMBER ; or odds NUMBER ; or account NAME KIND {NUMBER} ;"
                + " or law NUMBER becomes NUMBER [PLACE NUMBER] ; or watch NAME NUMBER ; KIND: debit or credit."
                + " PLACE: left or right or above or below. ({ } any number of times, [ ] perhaps.)");
        good(0, "");
        good(0, "law 1 becomes 2;");
        good(0, "law 1 becomes 2 above 3;law 1 becomes 2 below 3;");
        good(2, "account a debit;account b credit 1 2 3;");
        good(1, "odds 1;law 2 becomes 3;tap 4;account a debit 5;watch a 0;");
        String[] whole = {"wide 3 ;", "tap 3 ;", "odds 3 ;", "account a debit 1 2 ;", "account a credit ;",
            "law 1 becomes 2 ;", "law 1 becomes 2 left 3 ;"};
        for (String part : whole) {
            // Each TOKEN must stand there: where the text ends ahead of it, or another one stands, is a FAULT.
            for (int at = part.indexOf(' '); at >= 0; at = part.indexOf(' ', at + 1)) {
                faulty(2, part.substring(0, at) + "^");
                faulty(2, part.substring(0, at + 1) + "^=" + part.substring(at + 1));
            }
            faulty(2, part + "^;");
        }
        faulty(2, "account a ^left;");
        for (String word : SET_WORDS) {
            if (!List.of("left", "right", "above", "below").contains(word)) {
                faulty(2, "law 1 becomes 2 ^" + word + " 3;");
            }
            if (!List.of("debit", "credit").contains(word)) {
                faulty(2, "account a ^" + word + ";");
            }
            if (!word.equals("becomes")) {
                faulty(2, "law 1 ^" + word + " 2;");
            }
        }
        faulty(2, "law 1 becomes 2 left 3 ^left 3;");
        faulty(2, "law 1 becomes 2 ^3;");
        faulty(2, "account a debit;watch a^");
        faulty(2, "account a debit;watch a 0^");
        faulty(2, "account a debit;watch a 0 ^0;");
        for (String word : SET_WORDS.subList(13, 28)) {
            faulty(2, "^" + word + " 3;");
        }
    }

    private static void names() {
        DOC.terms(1, "10, 11", "NAME: a WORD of 1 to 8 letters that is none of wide, tap, odds, account, debit, credit, law,"
                + " becomes, left, right, above, below, watch, step, up, down, stay, doze, mend, steal, any, when, wrong,"
                + " digit, even, loop, end, stop.");
        CHECK.same("set words", SET_WORDS.size(), 28);
        for (String word : SET_WORDS) {
            faulty(2, "account ^" + word + " debit;");
            faulty(2, "account a debit;watch ^" + word + " 0;");
            good(2, "account " + word + "x debit;account x" + word + " debit;");
        }
        for (String name : new String[] {"a", "z", "aa", "abcdefgh", "zzzzzzzz", "aaaaaaaa", "wid", "hour", "stopp"}) {
            good(1, "account " + name + " debit;watch " + name + " 0;");
        }
        faulty(2, "account ^abcdefghi debit;");
        faulty(2, "account ^zzzzzzzzzzzzzzzzzzzzzzzzzzzzzzzz debit;");
        // Letters behind the eighth are not cut off: else this would be the word stop.
        faulty(2, "account ^aaaaaaaastop debit;");
        faulty(2, "account ^; debit;");
    }

    private static void oneName() {
        DOC.terms(1, "10", "No two ACCOUNTS have one NAME.");
        faulty(3, "account a debit;account ^a debit;");
        faulty(3, "account abcdefgh debit;account b debit;account ^abcdefgh credit;");
        faulty(3, "account a debit;account b debit;account c debit;account d debit;account ^a debit;");
        good(5, "account a debit;account aa debit;account aaa debit;account b debit;account ba debit;");
        good(2, "account abcdefga debit;account abcdefgb debit;");
    }

    private static void wideTapOdds() {
        DOC.terms(1, "10, 13", "WIDE (1 to 5; 3 without).");
        for (int wide = 1; wide <= 5; wide++) {
            SumsNightwatch x = good(1, "wide " + wide + ";account a debit;");
            CHECK.same("wide", x.many(2), wide);
            CHECK.same("cells", x.many(6), wide);
        }
        faulty(4, "wide ^0;");
        faulty(4, "wide ^6;");
        CHECK.same("without", good(1, "account a debit;").many(6), 3);
        DOC.terms(1, "10, 13", "TAP (1 to 9; 2 without).");
        for (int tap = 1; tap <= 9; tap++) {
            CHECK.same("tap", good(0, "tap " + tap + ";").many(3), tap);
        }
        faulty(4, "tap ^0;");
        faulty(4, "tap ^10;");
        CHECK.same("without", good(0, "wide 5;odds 9;").many(3), 2);
        DOC.terms(1, "10, 13", "ODDS (0 to 16; 2 without).");
        for (int odds = 0; odds <= 16; odds++) {
            CHECK.same("odds", good(0, "odds " + odds + ";").many(4), odds);
        }
        faulty(4, "odds ^17;");
        CHECK.same("without", good(0, "wide 5;tap 9;").many(4), 2);
    }

    private static void accounts() {
        DOC.terms(1, "10, 14", "ACCOUNTS, at most 5, each a row of WIDE CELLS with DIGITS (0 to 9; 0 for which none is told).");
        CHECK.same("five", good(5, FIVE).many(0), 5);
        faulty(6, FIVE + "^account f debit;");
        SumsNightwatch x = good(2, "wide 5;account a debit 0 9 8;account b credit;");
        CHECK.same("digits", Check.digits(x), 980000000);
        CHECK.same("cells", x.many(6), 10);
        CHECK.same("told to the last", Check.digits(good(1, "wide 5;account a debit 9 8 7 6 5;")), 98765);
        faulty(4, "account a debit ^10;");
        faulty(4, "account a debit 1 ^9999;");
        // What BOOKS ahead had in a CELL is not there for one of which none is told.
        for (int i = 0; i < 3; i++) {
            Check.book(x, "wide 5;account a debit 1;account b credit;");
            CHECK.same("0, not what was there", Check.digits(x), 1000000000L);
        }
    }

    private static void laws() {
        DOC.terms(1, "10, 17", "LAWS, at most 10: a DIGIT becomes another one (or the same), always, or if that in the PLACE"
                + " beside it is a told one.");
        CHECK.same("ten", good(0, TEN).many(1), 10);
        faulty(6, TEN + "^law 1 becomes 2;");
        SumsNightwatch x = good(0, "law 0 becomes 9;law 9 becomes 0 left 9;law 3 becomes 3 below 0;");
        int[][] due = {{0, 9, 0, 0}, {9, 0, 1, 9}, {3, 3, 4, 0}};
        for (int law = 0; law < 3; law++) {
            for (int what = 0; what < 4; what++) {
                CHECK.call(x, "law " + law + " " + what, x.law(law, what), due[law][what], 0);
            }
        }
        faulty(4, "law ^10 becomes 1;");
        faulty(4, "law 1 becomes ^10;");
        for (String place : new String[] {"left", "right", "above", "below"}) {
            faulty(4, "law 1 becomes 1 " + place + " ^10;");
        }
    }

    private static void watch() {
        DOC.terms(1, "10, 15", "WATCH: in which CELL (of which ACCOUNT, in which place, from 0 on) the WATCHMAN stands"
                + " (without: at the first CELL).");
        String two = "wide 2;account a debit;account b debit;";
        CHECK.same("first", good(2, two + "watch a 0;").watch(), 0);
        CHECK.same("end of a row", good(2, two + "watch a 1;").watch(), 1);
        CHECK.same("next row", good(2, two + "watch b 0;").watch(), 2);
        CHECK.same("last", good(2, two + "watch b 1;").watch(), 3);
        CHECK.same("told ahead of other rows", good(2, "account a debit;watch a 2;account b debit;").watch(), 2);
        faulty(4, two + "watch a ^2;");
        faulty(4, "wide 1;account a debit;watch a ^1;");
        faulty(4, "wide 5;account a debit;watch a ^5;");
        CHECK.same("without", good(2, two).watch(), 0);
        SumsNightwatch x = Check.withBook(two + "watch b 1;");
        Check.book(x, two);
        CHECK.same("without, not where he stood", x.watch(), 0);
    }

    private static void numbered() {
        DOC.terms(1, "14, 16, 17", "All are numbered as they stand; CELLS row by row: ACCOUNT times WIDE and its place, together.");
        SumsNightwatch x = good(3, "wide 2;law 5 becomes 6;account b debit 1 2;law 7 becomes 8;account a credit 3 4;"
                + "account c debit 5 6;");
        for (int c = 0; c < 6; c++) {
            CHECK.same("cell " + c, x.cell(c, 0), c + 1);
        }
        CHECK.same("accounts", x.account(0, 1) * 10000 + x.account(1, 1) * 100 + x.account(2, 1), 123456);
        CHECK.same("laws", x.law(0, 0) * 10 + x.law(1, 0), 57);
        CHECK.refused(x, "a 7th cell", x.cell(6, 0), 2);
        CHECK.refused(x, "a 4th account", x.account(3, 0), 2);
        CHECK.refused(x, "a 3rd law", x.law(2, 0), 2);
    }

    private static void firstFault() {
        DOC.terms(1, "10, 12", "FAULTS, the first along the text (of one TOKEN the least kind):");
        faulty(4, "wide ^9; ! 12345");
        faulty(1, "^! wide 9;");
        faulty(2, "^stop; wide 9; !");
        faulty(3, "account a debit;account ^a debit 10;wide 3;");
        faulty(5, "tap 2;^tap 99999;");
        faulty(6, FIVE + "^account a debit 10;");
        // No TOKEN, though nothing but a WORD may stand there; no DIGIT, and one more than WIDE.
        faulty(1, "^12345 3;");
        faulty(1, "wide 1;account a debit 1 ^12345;");
        faulty(4, "wide 1;account a debit 1 ^10;");
        // It can't stand there, whether it was told already, is taken, is one too many or not.
        faulty(2, "wide 3;tap ^wide");
        faulty(2, FIVE + "tap ^account");
        faulty(2, TEN + "tap ^law");
        faulty(2, "account a debit;account b ^a;");
        faulty(2, "tap 9 ^10;");
    }

    private static void faultsOneAndTwo() {
        DOC.terms(1, "10, 12", "1 no TOKEN begins so (a NUMBER of 5 digits and more: at its first).");
        faulty(1, "wide ^10000;");
        faulty(1, "wide 3;^00003");
        faulty(1, "account a debit 1 2^.");
        faulty(1, "account ^Cash debit;");
        faulty(1, "account c^Ash debit;");
        faulty(1, "law 1 becomes ^-1;");
        faulty(1, "wide 3;^\u00e9");
        DOC.terms(1, "10, 12", "2 it can't stand there (the end: the text's length; a WORD of 9 letters and more where a NAME"
                + " must stand).");
        faulty(2, "wide^");
        faulty(2, "wide 3^");
        faulty(2, "wide 3  \n ^");
        faulty(2, "account abcdefgh ^");
        // The tape's other bytes, here the ; too, are not asked.
        SumsNightwatch x = new SumsNightwatch();
        Check.feed(x, "wide 3;");
        CHECK.refused(x, "six bytes", x.book(6), 10);
        CHECK.fault(x, "six bytes", 2, 6);
        Check.feed(x, "tap 12;");
        CHECK.refused(x, "five bytes, within a NUMBER", x.book(5), 10);
        CHECK.fault(x, "five bytes", 2, 5);
        Check.feed(x, "account ab debit;");
        CHECK.refused(x, "nine bytes, within a NAME", x.book(9), 10);
        CHECK.fault(x, "nine bytes", 2, 9);
        faulty(2, "account ^abcdefghi debit;");
        faulty(2, "account abcdefgh debit;account ^abcdefghi debit;");
        faulty(2, "account abcdefgh debit;watch ^abcdefghi 0;");
        faulty(2, "^abcdefghi 3;");
    }

    private static void faultsThreeAndFour() {
        DOC.terms(1, "10, 12", "3 a new NAME that is taken; a NAME that is no ACCOUNT told ahead.");
        faulty(3, "account a debit;account ^a credit;");
        faulty(3, "watch ^a 0;account a debit;");
        faulty(3, "account a debit;watch ^b 0;account b debit;");
        faulty(3, "account ab debit;watch ^a 0;");
        faulty(3, "account a debit;watch ^aa 0;");
        // An ACCOUNT of the BOOK ahead, which has the NAME old, is none of this one.
        faulty(3, "account a debit;watch ^old 0;");
        good(1, "account old debit;");
        DOC.terms(1, "10, 12", "4 a NUMBER that can't be.");
        faulty(4, "wide ^0;");
        faulty(4, "wide ^6;");
        faulty(4, "tap ^0;");
        faulty(4, "tap ^10;");
        faulty(4, "odds ^17;");
        faulty(4, "account a debit 9 ^10;");
        faulty(4, "law ^10 becomes 10;");
        faulty(4, "law 9 becomes ^10 left 10;");
        faulty(4, "law 9 becomes 9 right ^10;");
        faulty(4, "account a debit;watch a ^3;");
    }

    private static void faultsFiveAndSix() {
        DOC.terms(1, "10, 12", "5 wide, tap, odds, watch told already, wide behind an account (at that WORD).");
        faulty(5, "wide 3;^wide 3;");
        faulty(5, "tap 3;wide 2;^tap 3;");
        faulty(5, "odds 3;^odds 3;");
        faulty(5, "account a debit;watch a 0;^watch a 0;");
        faulty(5, "account a debit;^wide 3;");
        faulty(5, "wide 2;account a debit;^wide 2;");
        good(1, "law 1 becomes 2;wide 2;account a debit;tap 3;odds 3;");
        SumsNightwatch twice = good(0, "wide 2;tap 2;odds 2;");
        CHECK.call(twice, "another BOOK tells them anew", Check.book(twice, "wide 2;tap 2;odds 2;"), 0, 0);
        DOC.terms(1, "10, 12", "6 a sixth account, an 11th law (at that WORD), a DIGIT more than WIDE (at it).");
        faulty(6, FIVE + "tap 3;^account");
        faulty(6, TEN + "tap 3;^law");
        faulty(6, "wide 1;account a debit 1 ^2;");
        faulty(6, "account a debit 1 2 3 ^4;");
        faulty(6, "wide 5;account a debit 1 2 3 4 5 ^6 7;");
        good(1, "wide 5;account a debit 1 2 3 4 5;");
    }

    private static void taken() {
        DOC.terms(1, "10", "A BOOK that is taken is there in place of that ahead; it is HOUR 0, nothing is tapped, the DIGITS"
                + " are TRUE as they are told, nothing was stolen; there are no NIGHTS.");
        SumsNightwatch x = Check.withNights("wide 2;tap 9;odds 9;account a debit 1 2;account b debit 3 4;"
                + "law 4 becomes 5;watch b 0;", "doze 1;");
        x.step(4);
        x.steal(0);
        CHECK.same("hour, tapped, stolen, wrong", x.many(5) * 1000 + x.many(8) * 100 + x.many(9) * 10 + x.many(7), 1412);
        // More than once: nothing of a BOOK that was there two ahead comes again, either.
        for (int i = 0; i < 3; i++) {
            CHECK.call(x, "a new one", Check.book(x, "wide 2;account c credit 8 9;account d credit 7;"), 2, 0);
            CHECK.many(x, 2, 0, 2, 2, 2, 0, 4, 0, 0, 0, 0);
            for (int c = 0; c < 4; c++) {
                CHECK.call(x, "true " + c, x.cell(c, 1), x.cell(c, 0), 0);
                CHECK.call(x, "tapped " + c, x.cell(c, 2), 0, 0);
            }
            CHECK.same("digits, watch", Check.digits(x) * 10 + x.watch(), 89700);
        }
        CHECK.refused(x, "no nights", x.live(0), 8);
        CHECK.refused(x, "no mean", x.mean(0, 1), 8);
        CHECK.call(x, "an empty one", x.book(0), 0, 0);
        CHECK.same("cells", x.many(6), 0);
        CHECK.same("wide", x.many(2), 3);
    }
}
