/** FAULTS of BOOKS and NIGHTS (promises 10 to 12): in each text a ^ stands where the FAULT is, and is not fed. */
public final class TextFaultsTest {
    private static final String FIVE = "account a debit;account b credit;account c debit;account d debit;account e debit;";
    private static final String ACCOUNTS = "wide 3;account cash debit 1 7 0;account rent credit 0 9 5;";

    private static final Check CHECK = new Check();

    public static void main(String[] args) {
        tokens();
        books();
        booksWithNumbers();
        goodBooks();
        nights();
        goodNights();
        CHECK.end("TextFaultsTest");
    }

    private static void badBook(int fault, String marked) {
        String text = marked.replace("^", "");
        SumsNightwatch x = Check.withBook(ACCOUNTS);
        x.scratch(0, 4);
        CHECK.part("book '" + marked + "'");
        CHECK.refused(x, "book", Check.book(x, text), 10);
        CHECK.fault(x, "book", fault, marked.indexOf('^'));
        CHECK.same("the old one's accounts", x.many(0), 2);
        CHECK.same("the old one's digit", x.cell(0, 0), 4);
        CHECK.same("the tape is empty", x.feed(0, 0, 0, 0, 0), 20);
    }

    private static void badNights(int fault, String marked) {
        String text = marked.replace("^", "");
        SumsNightwatch x = Check.withBook(ACCOUNTS);
        Check.nights(x, "doze 5;doze 1;");
        CHECK.part("nights '" + marked + "'");
        CHECK.refused(x, "nights", Check.nights(x, text), 10);
        CHECK.fault(x, "nights", fault, marked.indexOf('^'));
        CHECK.same("the tape is empty", x.feed(0, 0, 0, 0, 0), 20);
        CHECK.same("the old ones are lived", x.live(0), 2);
        CHECK.same("their hours", x.lived(1), 6);
    }

    private static SumsNightwatch goodBook(String text, int accounts) {
        SumsNightwatch x = new SumsNightwatch();
        CHECK.part("book '" + text + "'");
        CHECK.call(x, "book", Check.book(x, text), accounts, 0);
        CHECK.fault(x, "book", 0, -1);
        return x;
    }

    private static void goodNight(String text, int orders) {
        SumsNightwatch x = Check.withBook(ACCOUNTS);
        CHECK.part("nights '" + text + "'");
        CHECK.call(x, "nights", Check.nights(x, text), orders, 0);
        CHECK.fault(x, "nights", 0, -1);
    }

    private static void tokens() {
        badBook(1, "^!");
        badBook(1, "wide 3; ^A");
        badBook(1, "wide ^12345;");
        badBook(1, "wide 3;^10000000000000");
        badBook(1, "wide 3;^\t");
        badBook(1, "wide 3;\n^\r");
        badBook(1, "account a^\u00e9 debit;");
        badBook(1, "account a^_b debit;");
        badBook(1, "wide 3^.");
        badBook(1, "^" + (char) 0);
        badBook(1, "account a debit ^-1;");
        badBook(1, "wide ^{");
        badBook(1, "wide ^:");
        badBook(1, "wide ^/");
        badBook(1, "wide ^`");
        // The first along the text: what comes behind it does not matter.
        badBook(4, "wide ^9; !");
        badBook(1, "wide ^! 9;");
    }

    private static void books() {
        badBook(2, "^;");
        badBook(2, "^3");
        badBook(2, "^<");
        badBook(2, "^left 3;");
        badBook(2, "^abc;");
        badBook(2, "^abcdefghijkl;");
        badBook(2, "^end;");
        badBook(2, "^becomes 3;");
        badBook(2, "wide 3;^;");
        badBook(2, "wide^");
        badBook(2, "wide ^;");
        badBook(2, "wide ^x;");
        badBook(2, "wide 3^");
        badBook(2, "wide 3 \n ^");
        badBook(2, "wide 3 ^4;");
        badBook(2, "tap ^tap;");
        badBook(2, "odds ^=");
        badBook(2, "account ^debit debit;");
        badBook(2, "account ^stop debit;");
        badBook(2, "account ^abcdefghi debit;");
        badBook(2, "account ^3");
        badBook(2, "account a ^b;");
        badBook(2, "account a ^5;");
        badBook(2, "account a ^;");
        badBook(2, "account a debit 1 ^<");
        badBook(2, "account a debit 1 2 3 ^x;");
        badBook(2, "law ^becomes 1;");
        badBook(2, "law 1 ^left 2;");
        badBook(2, "law 1 ^2;");
        badBook(2, "law 1 becomes ^;");
        badBook(2, "law 1 becomes 2 ^up 3;");
        badBook(2, "law 1 becomes 2 ^3;");
        badBook(2, "law 1 becomes 2 left ^;");
        badBook(2, "law 1 becomes 2 left 3 ^right 4;");
        badBook(2, "account a debit;watch ^even 0;");
        badBook(2, "account a debit;watch ^abcdefghi 0;");
        badBook(2, "account a debit;watch a ^;");
        badBook(2, "account a debit;watch a 0 ^0;");
        badBook(3, "account a debit;account ^a credit;");
        badBook(3, "watch ^a 0;");
        badBook(3, "account a debit;watch ^b 0;");
        badBook(3, "account a debit;watch ^aa 0;");
        badBook(3, "watch ^a 0;account a debit;");
        // A WORD of 9 letters is no NAME, so its first eight are not looked at.
        badBook(2, "account abcdefgh debit;account ^abcdefghi debit;");
        badBook(3, "account abcdefgh debit;account ^abcdefgh debit;");
    }

    private static void booksWithNumbers() {
        badBook(4, "wide ^0;");
        badBook(4, "wide ^6;");
        badBook(4, "tap ^0;");
        badBook(4, "tap ^10;");
        badBook(4, "odds ^17;");
        badBook(4, "odds ^9999;");
        badBook(4, "account a debit ^10;");
        badBook(4, "law ^10 becomes 1;");
        badBook(4, "law 1 becomes ^10;");
        badBook(4, "law 1 becomes 1 left ^10;");
        badBook(4, "wide 2;account a debit;watch a ^2;");
        badBook(4, "account a debit;watch a ^3;");
        // Of one TOKEN the least kind: no DIGIT (4), and one more than WIDE (6).
        badBook(4, "wide 1;account a debit 1 ^10;");
        badBook(5, "wide 3;^wide 3;");
        badBook(5, "wide 3;^wide !");
        badBook(5, "tap 2;^tap 2;");
        badBook(5, "odds 2;^odds 2;");
        badBook(5, "account a debit;watch a 0;^watch a 0;");
        badBook(5, "account a debit;^wide 3;");
        badBook(6, FIVE + "^account f debit;");
        badBook(6, FIVE + "^account a !");
        badBook(6, "law 1 becomes 2;".repeat(10) + "^law 1 becomes 2;");
        badBook(6, "law 1 becomes 2;".repeat(10) + "^law x");
        badBook(6, "wide 2;account a debit 1 2 ^3;");
        badBook(6, "account a debit 1 2 3 ^4;");
        badBook(6, "account a debit 1 2 3 ^4 !");
    }

    private static void goodBooks() {
        goodBook("", 0);
        goodBook(" \n ", 0);
        goodBook(FIVE + "law 1 becomes 2;".repeat(10), 5);
        SumsNightwatch x = goodBook("tap 9;odds 16;wide 0001;account wides debit;account abcdefgh credit 0009;", 2);
        CHECK.same("wide", x.many(2), 1);
        CHECK.same("tap", x.many(3), 9);
        CHECK.same("odds", x.many(4), 16);
        CHECK.same("digit", x.cell(1, 0), 9);
        x = goodBook("wide5;account a debit1 2\n3;law1becomes2left3;watch a 4;odds0;tap 1;", 1);
        CHECK.same("sum", x.account(0, 1), 12300);
        CHECK.same("place", x.law(0, 2), 1);
        CHECK.same("watch", x.watch(), 4);
        CHECK.same("odds", x.many(4), 0);
        x = goodBook("account b credit;account a debit 9;", 2);
        CHECK.same("wide without", x.many(2), 3);
        CHECK.same("watch without", x.watch(), 0);
        CHECK.same("kind", x.account(0, 0), 1);
        // A text of 900 bytes, the most that a tape has.
        String law = "law 1 becomes 2;";
        goodBook(law + " ".repeat(900 - 2 * law.length()) + law, 0);
    }

    private static void nights() {
        badNights(1, "step ^Up;");
        badNights(1, "doze ^00001;");
        badNights(1, "any;^?");
        badNights(2, "^go;");
        badNights(2, "^end;");
        badNights(2, "any;^end;");
        badNights(2, "^wide 3;");
        badNights(2, "^even;");
        badNights(2, "^cash;");
        badNights(2, "^;");
        badNights(2, "step^;");
        badNights(2, "step ^above;");
        badNights(2, "step up^");
        badNights(2, "step up ^up;");
        badNights(2, "doze ^;");
        badNights(2, "doze ^up;");
        badNights(2, "mend ^0 0;");
        badNights(2, "mend ^even 0;");
        badNights(2, "steal ^abcdefghi 0;");
        badNights(2, "steal cash^;");
        badNights(2, "any ^1;");
        badNights(2, "stop ^1;");
        badNights(2, "when ^;");
        badNights(2, "when ^go; end;");
        badNights(2, "when wrong ^1; end;");
        badNights(2, "when wrong ^; end;");
        badNights(2, "when wrong < ^; end;");
        badNights(2, "when wrong < ^> 1; end;");
        badNights(2, "when digit ^0 = 1; end;");
        badNights(2, "when digit cash 0 ^0; end;");
        badNights(2, "when even ^= 1; end;");
        badNights(2, "when even ^end;");
        badNights(2, "when even; end ^any;");
        badNights(2, "when even; any; ^");
        badNights(2, "loop 2; loop 2; end; ^");
        badNights(2, "loop ^;");
        badNights(2, "loop 2; end; ^end;");
        badNights(3, "mend ^x 0;");
        badNights(3, "steal ^cas 0;");
        badNights(3, "when digit ^x 0 = 0; end;");
        badNights(4, "doze ^0;");
        badNights(4, "doze ^25;");
        badNights(4, "mend cash ^3;");
        badNights(4, "steal rent ^9999;");
        badNights(4, "when wrong > ^100; end;");
        badNights(4, "when digit cash ^3 = 0; end;");
        badNights(4, "when digit cash 0 = ^10; end;");
        badNights(4, "loop ^0; end;");
        badNights(4, "loop ^100; end;");
        badNights(6, "any;".repeat(30) + "^any;");
        badNights(6, "any;".repeat(30) + "^step");
        badNights(2, "any;".repeat(30) + "^go");
        badNights(6, "any;".repeat(27) + "loop 1;loop 1;loop 1;^loop 1;");
        badNights(6, "loop 1;".repeat(3) + "end;".repeat(3) + "stop;".repeat(27) + "^stop;");
        badNights(7, "loop 1;when even;loop 1;^when even;");
        badNights(7, "loop 1;when even;loop 1;^loop");
    }

    private static void goodNights() {
        goodNight("", 0);
        goodNight("\n", 0);
        goodNight("any;".repeat(30), 30);
        goodNight("loop 1;".repeat(3) + "end;".repeat(3) + "stop;".repeat(27), 30);
        goodNight("loop 1;when even;loop 99;end;when wrong<0;end;end;end;", 4);
        goodNight("step up;step down;step left;step right;step stay;doze 1;doze 24;", 7);
        goodNight("mend cash 0;steal rent 2;when digit cash 2>9;end;when wrong=99;end;stop;", 5);
        goodNight("any" + " ".repeat(296) + ";", 1);
    }
}
