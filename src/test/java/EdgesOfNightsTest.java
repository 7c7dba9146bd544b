/**
 * Terms, part ==== 4: the text of NIGHTS, how they are lived, MARKS, FRACTIONS. In a text that has a FAULT a ^ stands where
 * it is, and is not fed.
 */
public final class EdgesOfNightsTest {
    private static final Check CHECK = new Check();
    private static final Doc DOC = new Doc(CHECK);
    private static final String BOOK = "wide 2;account a debit 1 2;account b credit 3 4;";

    public static void main(String[] args) {
        length();
        orders();
        faultsOneAndTwo();
        faultsThreeAndFour();
        faultsSixAndSeven();
        numbers();
        any();
        missed();
        missedLate();
        loop();
        atMost();
        lived();
        draws();
        marks();
        marksTakenBack();
        fractions();
        DOC.endOfTerms(4);
        CHECK.end("EdgesOfNightsTest");
    }

    private static void faulty(int fault, String marked) {
        SumsNightwatch x = Check.withNights(BOOK, "doze 5;doze 1;");
        CHECK.refused(x, "nights '" + marked + "'", Check.nights(x, marked.replace("^", "")), 10);
        CHECK.fault(x, "nights '" + marked + "'", fault, marked.indexOf('^'));
        CHECK.same("the old ones are lived", x.live(0) * 10 + x.lived(1), 26);
    }

    private static SumsNightwatch good(int orders, String text) {
        SumsNightwatch x = Check.withBook(BOOK);
        CHECK.call(x, "nights '" + text + "'", Check.nights(x, text), orders, 0);
        CHECK.fault(x, "nights '" + text + "'", 0, -1);
        return x;
    }

    private static void length() {
        DOC.terms(4, "11, 50", "NIGHTS are a TEXT of at most 300 bytes, of such TOKENS (none at first).");
        SumsNightwatch x = good(1, "doze 7" + " ".repeat(293) + ";");
        CHECK.lives(x, 0, 1, 0, 7);
        Check.feed(x, "doze 7" + " ".repeat(294) + ";");
        CHECK.refused(x, "301", x.nights(301), 5);
        CHECK.refused(x, "300 of them", x.nights(300), 10);
        CHECK.fault(x, "300 of them", 2, 300);
        good(1, "\ndoze\n \n7;");
        good(2, "doze7;step\nup;");
        faulty(2, "^stepup;");
        faulty(1, "doze^\t7;");
        faulty(1, "doze ^00007;");
        SumsNightwatch none = new SumsNightwatch();
        CHECK.refused(none, "none at first", none.live(0), 8);
        CHECK.refused(none, "none at first", none.mean(0, 1), 8);
    }

    private static void orders() {
        DOC.terms(4, "11", "NIGHTS: {ORDER}. ORDER: step WAY ; or doze NUMBER ; or mend NAME NUMBER ; or steal NAME NUMBER ;"
                + " or any ; or when TEST ; {ORDER} end ; or loop NUMBER ; {ORDER} end ; or stop ; WAY: up or down or left or"
                + " right or stay. TEST: wrong COMPARES NUMBER, or digit NAME NUMBER COMPARES NUMBER, or even. COMPARES: < or"
                + " > or =");
        good(0, "");
        good(0, "\n");
        String[] whole = {"step up ;", "step down ;", "step left ;", "step right ;", "step stay ;", "doze 1 ;", "mend a 0 ;",
            "steal a 0 ;", "any ;", "stop ;", "when even ; end ;", "when wrong < 1 ; end ;", "when wrong > 1 ; end ;",
            "when wrong = 1 ; end ;", "when digit a 0 = 1 ; end ;", "when digit b 1 < 1 ; end ;", "loop 1 ; end ;"};
        for (String order : whole) {
            good(1, order);
            for (int at = order.indexOf(' '); at >= 0; at = order.indexOf(' ', at + 1)) {
                faulty(2, order.substring(0, at) + "^");
                faulty(2, order.substring(0, at + 1) + "^debit " + order.substring(at + 1));
            }
            faulty(2, order + "^;");
        }
        good(6, "when even;any;any;when even;end;end;loop 1;any;end;");
        for (String word : new String[] {"wide", "tap", "odds", "account", "debit", "credit", "law", "becomes", "left", "right",
            "above", "below", "watch", "up", "down", "stay", "wrong", "digit", "even", "end", "a", "b"}) {
            faulty(2, "^" + word + ";");
        }
        for (String word : new String[] {"watch", "step", "up", "doze", "any", "when", "loop", "end", "stop", "a"}) {
            faulty(2, "when ^" + word + ";end;");
            faulty(2, "when ^" + word + " = 0;end;");
        }
        for (String word : new String[] {"above", "below", "watch", "step", "doze", "a"}) {
            faulty(2, "step ^" + word + ";");
        }
        ways();
        faulty(2, "when wrong < ^= 1;end;");
        faulty(2, "when wrong ^; 1;end;");
        faulty(2, "when ^< 1;end;");
        faulty(2, "step ^above;");
        faulty(2, "^even;");
        faulty(2, "^a 0;");
        faulty(2, "^account c debit;");
    }

    private static void ways() {
        String[] ways = {"up", "down", "left", "right", "stay"};
        int[] to = {1, 7, 3, 5, 4};
        for (int way = 0; way < 5; way++) {
            SumsNightwatch x = Check.withNights("wide 3;account a debit;account b debit;account c debit;watch b 1;",
                    "step " + ways[way] + ";");
            CHECK.lives(x, 0, 1, 0, 1, 1, 0, 0);
            CHECK.same(ways[way], x.watch(), to[way]);
        }
    }

    private static void faultsOneAndTwo() {
        DOC.terms(4, "11, 12", "FAULTS: 1, 2 as above (an end without a beginning; the text's end ahead of an end: 2).");
        faulty(1, "doze ^12345;");
        faulty(1, "any;^!");
        faulty(2, "mend ^abcdefghi 0;");
        faulty(2, "^end;");
        faulty(2, "any;^end;");
        faulty(2, "loop 1;end;^end;");
        faulty(2, "loop 1;^");
        faulty(2, "when even;any;  ^");
        faulty(2, "loop 1;loop 1;end;^");
        faulty(2, "loop 1;end^");
        faulty(4, "loop 1;doze ^0;");
        // What was begun in a text that was not taken is not begun in the next.
        SumsNightwatch x = Check.withBook(BOOK);
        CHECK.refused(x, "two begun", Check.nights(x, "loop 1;loop 1;"), 10);
        CHECK.call(x, "none begun", Check.nights(x, "any;"), 1, 0);
        CHECK.refused(x, "two begun", Check.nights(x, "loop 1;loop 1;"), 10);
        CHECK.refused(x, "an end without a beginning", Check.nights(x, "end;"), 10);
    }

    private static void faultsThreeAndFour() {
        DOC.terms(4, "11, 12", "3 a NAME that is no ACCOUNT.");
        faulty(3, "mend ^c 0;");
        faulty(3, "steal ^aa 9;");
        faulty(3, "when digit ^c 0 = 0;end;");
        SumsNightwatch none = new SumsNightwatch();
        CHECK.refused(none, "no accounts at all", Check.nights(none, "mend a 0;"), 10);
        CHECK.fault(none, "no accounts at all", 3, 5);
        DOC.terms(4, "11, 12", "4 a NUMBER that can't be.");
        faulty(4, "doze ^25;");
        faulty(4, "mend a ^2;");
        faulty(4, "steal b ^9999;");
        faulty(4, "when wrong < ^100;end;");
        faulty(4, "when digit a ^2 = 10;end;");
        faulty(4, "when digit a 1 = ^10;end;");
        faulty(4, "loop ^100;end;");
    }

    private static void faultsSixAndSeven() {
        DOC.terms(4, "11, 12", "6 a 31st ORDER (at its WORD; end is none).");
        good(30, "any;".repeat(30));
        faulty(6, "any;".repeat(30) + "^any;");
        faulty(6, "any;".repeat(30) + "^doze 99999");
        faulty(2, "any;".repeat(30) + "^end;");
        good(30, "loop 1;end;".repeat(20) + "any;".repeat(10));
        good(30, "loop 1;loop 1;loop 1;end;end;end;" + "any;".repeat(27));
        // As many ORDERS and ends as 300 bytes can hold.
        CHECK.lives(good(30, "loop1;end;".repeat(27) + "loop2;loop2;loop1;end;end;end;"), 0, 27 + 7, 0, 0, 0, 0, 0);
        faulty(6, "loop 1;".repeat(3) + "end;".repeat(3) + "any;".repeat(27) + "^any;");
        good(30, "any;".repeat(29) + "loop 1;end;");
        faulty(6, "any;".repeat(30) + "^loop 1;end;");
        DOC.terms(4, "11, 12", "7 a when, loop within three others (at its WORD).");
        good(4, "loop 1;when even;loop 1;any;end;end;end;");
        faulty(7, "loop 1;when even;loop 1;^loop 1;end;end;end;end;");
        faulty(7, "when even;loop 1;when even;^when !");
        faulty(7, "loop 1;loop 1;loop 1;end;loop 1;^when even;");
        good(5, "loop 1;loop 1;loop 1;end;end;loop 1;loop 1;end;end;end;");
        // Of one TOKEN the least kind.
        faulty(6, "any;".repeat(27) + "loop 1;loop 1;loop 1;^loop 1;");
    }

    private static void numbers() {
        DOC.terms(4, "11", "doze: 1 to 24; mend, steal, digit: an ACCOUNT, a place (0 to 1 less than WIDE); digit against 0 to 9;"
                + " wrong: 0 to 99;");
        CHECK.lives(good(2, "doze 1;doze 24;"), 0, 2, 0, 25);
        faulty(4, "doze ^0;");
        faulty(4, "doze ^25;");
        for (String order : new String[] {"mend a ", "steal b ", "when digit a "}) {
            String rest = order.startsWith("when") ? " = 1;end;" : ";";
            good(1, order + "0" + rest);
            good(1, order + "1" + rest);
            faulty(4, order + "^2" + rest);
        }
        SumsNightwatch five = Check.withBook("wide 5;account a debit;");
        CHECK.call(five, "the fifth place", Check.nights(five, "mend a 4;"), 1, 0);
        CHECK.refused(five, "a sixth", Check.nights(five, "mend a 5;"), 10);
        CHECK.fault(five, "a sixth", 4, 7);
        good(2, "when digit a 0 = 0;end;when digit a 0 < 9;end;");
        faulty(4, "when digit a 0 > ^10;end;");
        good(2, "when wrong > 0;end;when wrong = 99;end;");
        faulty(4, "when wrong > ^100;end;");
        SumsNightwatch tests = Check.withNights("wide 1;account a debit 0;account b debit 9;", "when digit a 0 < 1;doze 1;end;"
                + "when digit a 0 < 0;doze 2;end;when digit b 0 > 8;doze 4;end;when digit b 0 > 9;doze 8;end;"
                + "when digit b 0 = 9;doze 16;end;when wrong < 0;doze 24;end;when wrong = 0;doze 20;end;");
        CHECK.lives(tests, 0, 11, 0, 1 + 4 + 16 + 20);
        compares();
        // By 1 too few, even, by 1 too many.
        SumsNightwatch even = Check.withNights("wide 1;account a debit 4;account b credit 5;", "when even;doze 1;end;");
        for (int digit = 4; digit <= 6; digit++) {
            even.scratch(0, digit);
            CHECK.lives(even, 0, digit == 5 ? 2 : 1, 0, digit == 5 ? 1 : 0);
        }
    }

    /** Two CELLS are WRONG, and a DIGIT is 5 now: below that, just that, above it. */
    private static void compares() {
        String[] signs = {"<", "=", ">"};
        for (int by = -1; by <= 1; by++) {
            for (int sign = -1; sign <= 1; sign++) {
                SumsNightwatch x = Check.withNights("wide 2;account a debit 1 2;account b debit 3 4;", "when wrong "
                        + signs[sign + 1] + (2 - by) + ";doze 1;end;when digit b 1 " + signs[sign + 1] + (5 - by) + ";doze 2;end;");
                x.scratch(3, 5);
                x.scratch(0, 0);
                CHECK.lives(x, 0, by == sign ? 4 : 2, 0, by == sign ? 3 : 0);
            }
        }
    }

    /** s, at first the seed, as the document reckons draws. */
    private static int draw(int[] s, int n) {
        s[0] = (int) ((s[0] * 2971L + 10853L) % 65536L);
        return (int) Math.floor(s[0] / 8.0) % n;
    }

    private static void any() {
        DOC.terms(4, "50", "any: he dozes, if a draw by 16 is below ODDS, else he makes a STEP by a draw by 5.");
        // Seed 0 draws 12 by 16, then 0 by 5: up.
        int[] s = {0};
        CHECK.same("by 16", draw(s, 16), 12);
        CHECK.same("by 5", draw(s, 5), 0);
        String three = "wide 3;account a debit;account b debit;account c debit;watch b 1;odds ";
        SumsNightwatch step = Check.withNights(three + "12;", "any;");
        CHECK.lives(step, 0, 1, 0, 1, 1);
        CHECK.same("12 is not below 12: up, and tapped", step.watch() * 10 + step.many(8), 12);
        SumsNightwatch doze = Check.withNights(three + "13;", "any;");
        CHECK.lives(doze, 0, 1, 0, 1, 0);
        CHECK.same("12 is below 13: he stays, nothing is tapped", doze.watch() * 10 + doze.many(8), 40);
        for (int seed = 0; seed < 16; seed++) {
            SumsNightwatch never = Check.withNights(three + "0;", "any;");
            SumsNightwatch ever = Check.withNights(three + "16;", "any;");
            CHECK.lives(never, seed, 1, 0, 1, 1);
            CHECK.lives(ever, seed, 1, 0, 1, 0);
        }
    }

    private static void missed() {
        DOC.terms(4, "50, 51", "What can't be is MISSED: HOURS beyond 9,999 (as a whole), a STEP out of the BOOK (no HOUR goes"
                + " by), a mend of what is not WRONG, a theft of 0, any without ACCOUNTS (no draws).");
        String one = "wide 1;account a debit 1;law 1 becomes 2;";
        for (String way : new String[] {"up", "down", "left", "right"}) {
            SumsNightwatch out = Check.withNights(one, "step " + way + ";");
            CHECK.lives(out, 0, 1, 1, 0, 0, 0, 0);
            CHECK.same(way + ": no hour, no tap, no drift", out.many(5) * 100 + out.many(8) * 10 + out.many(7), 0);
        }
        SumsNightwatch mend = Check.withNights("wide 1;account a debit 1;", "mend a 0;");
        CHECK.lives(mend, 0, 1, 1, 0, 0, 0, 0);
        mend.scratch(0, 9);
        CHECK.lives(mend, 0, 1, 0, 0, 0, 0, 0);
        CHECK.same("mended", mend.cell(0, 0), 1);
        SumsNightwatch last = Check.withNights(BOOK, "mend b 1;steal b 0;");
        last.scratch(0, 9);
        last.scratch(3, 9);
        CHECK.lives(last, 0, 2, 0, 0, 0, 3, 0);
        CHECK.same("the last mended, that ahead of it stolen", Check.digits(last), 9204);
        SumsNightwatch steal = Check.withNights("wide 1;account a debit 1;", "steal a 0;steal a 0;");
        CHECK.lives(steal, 0, 2, 1, 0, 0, 1, 0);
        CHECK.lives(steal, 0, 2, 2, 0, 0, 0, 0);
        SumsNightwatch none = Check.withNights("odds 16;", "any;any;");
        CHECK.lives(none, 0, 2, 2, 0, 0, 0, 0);
        CHECK.same("no hour", none.many(5), 0);
        CHECK.call(none, "a step without accounts", Check.nights(none, "step stay;"), 1, 0);
        CHECK.lives(none, 0, 1, 1, 0, 0, 0, 0);
    }

    private static void missedLate() {
        SumsNightwatch x = Check.withNights("wide 1;odds 16;account a debit 1;", "doze 10;doze 9;doze 1;step stay;any;");
        Check.dozeTo(x, 9990);
        CHECK.lives(x, 0, 5, 4, 9, 0, 0, 0);
        CHECK.same("hour", x.many(5), 9999);
        CHECK.same("nothing tapped", x.many(8), 0);
        CHECK.lives(x, 0, 5, 5, 0, 0, 0, 0);
        SumsNightwatch whole = Check.withNights("account a debit;", "doze 24;");
        Check.dozeTo(whole, 9976);
        CHECK.lives(whole, 0, 1, 1, 0, 0, 0, 0);
        CHECK.same("as a whole", whole.many(5), 9976);
        SumsNightwatch fits = Check.withNights("account a debit;", "doze 24;");
        Check.dozeTo(fits, 9975);
        CHECK.lives(fits, 0, 1, 0, 24, 0, 0, 0);
        SumsNightwatch steps = Check.withNights("odds 0;account a debit;", "step stay;step stay;");
        Check.dozeTo(steps, 9998);
        CHECK.lives(steps, 0, 2, 1, 1, 1, 0, 0);
        CHECK.same("the last hour", steps.many(5), 9999);
    }

    private static void loop() {
        DOC.terms(4, "11, 50", "loop n (1 to 99): as often.");
        for (int n : new int[] {1, 2, 98, 99}) {
            CHECK.lives(good(2, "loop " + n + ";doze 1;end;"), 0, n + 1, 0, n);
        }
        faulty(4, "loop ^0;end;");
        faulty(4, "loop ^100;end;");
        CHECK.lives(good(1, "loop 99;end;"), 0, 1, 0, 0);
        CHECK.lives(good(3, "loop 2;stop;end;doze 1;"), 0, 2, 0, 0);
        // What was left of a loop by a stop is not left in other NIGHTS.
        SumsNightwatch other = good(2, "loop 9;stop;end;");
        CHECK.lives(other, 0, 2, 0, 0);
        Check.nights(other, "when wrong = 0;doze 1;end;");
        CHECK.lives(other, 0, 2, 0, 1);
        // The inner one begins anew each time.
        CHECK.lives(good(4, "loop 3;loop 4;loop 5;doze 1;end;end;end;"), 0, 1 + 3 + 12 + 60, 0, 60);
    }

    private static void atMost() {
        DOC.terms(4, "50, 51", "At most 300 ORDERS (when, loop count as one each time they are come to from ahead; end does"
                + " not).");
        CHECK.lives(good(3, "loop 99;doze 1;doze 1;end;"), 0, 199, 0, 198, 0, 0, 0);
        String most = "loop 99;doze 1;doze 1;doze 1;end;";
        CHECK.lives(good(4, most), 0, 298, 0, 297, 0, 0, 0);
        CHECK.lives(good(6, most + "doze 1;doze 1;"), 0, 300, 0, 299, 0, 0, 0);
        CHECK.lives(good(7, most + "doze 1;doze 1;doze 1;"), 0, 300, 0, 299, 0, 0, 1);
        // The 300th ORDER: a loop without any within it, a when that holds, one that does not.
        CHECK.lives(good(6, most + "doze 1;loop 9;end;"), 0, 300, 0, 298, 0, 0, 0);
        CHECK.lives(good(7, most + "doze 1;loop 9;doze 1;end;"), 0, 300, 0, 298, 0, 0, 1);
        CHECK.lives(good(7, most + "doze 1;when wrong = 0;doze 1;end;"), 0, 300, 0, 298, 0, 0, 1);
        CHECK.lives(good(7, most + "doze 1;when wrong > 0;doze 1;end;"), 0, 300, 0, 298, 0, 0, 0);
        CHECK.lives(good(3, "loop 3;when even;doze 1;end;end;"), 0, 4, 0, 0);
        CHECK.lives(good(3, "loop 3;when wrong = 0;doze 1;end;end;"), 0, 7, 0, 3);
        CHECK.lives(good(3, "loop 3;loop 2;doze 1;end;end;"), 0, 10, 0, 6);
        // MISSED ones count, too.
        CHECK.lives(good(4, "loop 99;step left;step up;steal a 0;end;"), 0, 298, 99 * 3 - 1, 0, 0, 1, 0);
        CHECK.lives(good(3, "loop 99;loop 99;mend a 0;end;end;"), 0, 300, 296, 0, 0, 0, 1);
    }

    private static void lived() {
        DOC.terms(4, "50", "LIVED by a seed (0 to 9,999): all is as it is then.");
        SumsNightwatch x = Check.withNights("wide 2;account a debit 1 5;law 1 becomes 2;", "step right;steal a 1;doze 1;");
        CHECK.refused(x, "-1", x.live(-1), 5);
        CHECK.refused(x, "10,000", x.live(10000), 5);
        CHECK.same("nothing was lived", x.many(5), 0);
        CHECK.call(x, "0", x.live(0), 3, 0);
        CHECK.many(x, 1, 1, 2, 2, 2, 2, 2, 2, 0, 5, 0);
        CHECK.same("watch, digits", x.watch() * 100 + Check.digits(x), 120);
        CHECK.call(x, "9,999", x.live(9999), 3, 0);
        CHECK.same("on from there", x.many(5), 3);
        // Anew the ORDERS begin with the first, the draws with the seed.
        SumsNightwatch anew = Check.withNights("odds 0;account a debit;account b debit;account c debit;watch b 1;", "any;");
        for (int times = 0; times < 5; times++) {
            anew.mark();
            CHECK.lives(anew, 0, 1, 0, 1, 1);
            CHECK.same("up each time", anew.watch(), 1);
            anew.back();
        }
    }

    private static void draws() {
        DOC.terms(4, "50", "Draws: s, at first the seed, becomes what is left of s times 2,971 and 10,853 by 65,536; the draw by"
                + " n is the rest of s by 8, rounded down, by n.");
        for (int seed : new int[] {0, 1, 2, 7, 4321, 9998, 9999}) {
            SumsNightwatch x = Check.withNights("wide 5;odds 5;account a debit;account b debit;account c debit;"
                    + "account d debit;account e debit;watch c 2;", "loop 99;any;end;");
            int[] s = {seed};
            int row = 2;
            int column = 2;
            int steps = 0;
            int missed = 0;
            for (int i = 0; i < 99; i++) {
                int way = draw(s, 16) < 5 ? -1 : draw(s, 5);
                int toRow = row + (way == 0 ? -1 : way == 1 ? 1 : 0);
                int toColumn = column + (way == 2 ? -1 : way == 3 ? 1 : 0);
                boolean out = toRow < 0 || toRow > 4 || toColumn < 0 || toColumn > 4;
                missed += out ? 1 : 0;
                steps += way >= 0 && !out ? 1 : 0;
                row = out ? row : toRow;
                column = out ? column : toColumn;
            }
            CHECK.lives(x, seed, 100, missed, 99 - missed, steps, 0, 0);
            CHECK.same("where seed " + seed + " brings him", x.watch(), row * 5 + column);
        }
    }

    private static void marks() {
        DOC.terms(4, "53, 54", "MARKS, at most 3:");
        SumsNightwatch x = new SumsNightwatch();
        for (int i = 1; i <= 3; i++) {
            CHECK.call(x, "mark", x.mark(), i, 0);
        }
        CHECK.refused(x, "a fourth", x.mark(), 7);
        CHECK.call(x, "two are left", x.back(), 2, 0);
        CHECK.call(x, "a third again", x.mark(), 3, 0);
        CHECK.refused(x, "a fourth again", x.mark(), 7);
    }

    private static void marksTakenBack() {
        DOC.terms(4, "53, 54", "the BOOK with all that became of it, the NIGHTS are kept as they are; all is taken back to the"
                + " latest MARK, which is gone then.");
        SumsNightwatch x = Check.withNights("wide 2;tap 4;odds 7;account a debit 1 2;account b credit 3 4;law 1 becomes 2;"
                + "law 4 becomes 5 left 3;watch b 0;", "doze 3;");
        x.step(4);
        x.steal(1);
        x.scratch(3, 9);
        x.vouch(3);
        x.mark();
        x.step(0);
        x.mend(1);
        x.steal(0);
        x.vouch(0);
        x.enact(9, 8, 0, 0);
        x.repeal(0);
        x.rule(3, 9);
        x.rule(4, 9);
        Check.nights(x, "doze 9;doze 9;");
        x.mark();
        Check.book(x, "wide 5;account z credit 9 9 9 9 9;");
        CHECK.call(x, "to the second", x.back(), 1, 0);
        CHECK.same("its stolen, laws, tap, odds", x.many(9) * 1000 + x.many(1) * 100 + x.many(3) * 10 + x.many(4), 4299);
        CHECK.lives(x, 0, 2, 0, 18);
        CHECK.call(x, "to the first", x.back(), 0, 0);
        CHECK.many(x, 2, 2, 2, 4, 7, 1, 4, 2, 4, 2, 0);
        CHECK.same("digits", Check.digits(x), 2039);
        CHECK.same("true", x.account(0, 2) * 100 + x.account(1, 2), 1239);
        CHECK.same("watch, its tap", x.watch() * 10 + x.cell(2, 2), 23);
        CHECK.same("law 1", x.law(1, 0) * 1000 + x.law(1, 1) * 100 + x.law(1, 2) * 10 + x.law(1, 3), 4513);
        CHECK.lives(x, 0, 1, 0, 3);
        CHECK.refused(x, "it is gone", x.back(), 8);
        CHECK.call(x, "names are as they were", Check.nights(x, "mend b 1;"), 1, 0);
        // NIGHTS that were not there are not there again.
        SumsNightwatch none = Check.withBook(BOOK);
        none.mark();
        Check.nights(none, "any;");
        none.back();
        CHECK.refused(none, "no nights", none.live(0), 8);
        // NIGHTS of every kind, in place of which others stood.
        SumsNightwatch nights = Check.withNights("wide 2;account a debit 1 2;account b debit 3 4;",
                "loop 2;when digit b 0 > 2;steal b 1;doze 1;end;end;step right;");
        nights.mark();
        Check.nights(nights, "step up;mend a 0;steal a 0;doze 2;any;when digit a 0 < 9;loop 5;end;end;doze 3;");
        nights.back();
        CHECK.lives(nights, 0, 8, 1, 3, 1, 4, 0);
        CHECK.same("stolen from b", Check.digits(nights) * 10 + nights.watch(), 12301);
        // What comes behind a MARK does not change what it keeps.
        SumsNightwatch kept = Check.withBook("wide 1;account a debit 1;");
        kept.mark();
        kept.scratch(0, 2);
        kept.mark();
        kept.scratch(0, 3);
        kept.back();
        CHECK.same("2", kept.cell(0, 0), 2);
        kept.scratch(0, 4);
        kept.back();
        CHECK.same("1", kept.cell(0, 0), 1);
    }

    private static void fractions() {
        DOC.terms(4, "3, 4, 48, 49, 52", "FRACTIONS are told by top() and bottom() without a common divisor, the bottom above 0;"
                + " 0 is 0 by 1.");
        SumsNightwatch x = Check.withBook("wide 4;account a debit;account b debit;account c debit;");
        for (int wrong = 0; wrong <= 12; wrong++) {
            int common = 12;
            while (wrong % common != 0 || 12 % common != 0) {
                common--;
            }
            CHECK.call(x, wrong + " of 12", x.shame(), true, 0);
            CHECK.fraction(x, wrong + " of 12", wrong / common, 12 / common);
            x.scratch(wrong, 1);
        }
        CHECK.call(x, "0 of 16 to the 12th", x.dozes(0, 12), true, 0);
        CHECK.fraction(x, "0", 0, 1);
        Check.nights(x, "stop;");
        CHECK.call(x, "12, 20 times", x.mean(0, 20), true, 0);
        CHECK.fraction(x, "12", 12, 1);
    }
}
