/** Promises 50 to 54: NIGHTS that are lived, their mean, MARKS. */
public final class NightsAndMarksTest {
    private static final Check CHECK = new Check();

    public static void main(String[] args) {
        orders();
        draws();
        tests();
        loops();
        atMost();
        missed();
        toTheLastHour();
        live();
        mean();
        marks();
        marksKeep();
        CHECK.end("NightsAndMarksTest");
    }

    private static SumsNightwatch with(String book, String nights) {
        SumsNightwatch x = Check.withBook(book);
        Check.nights(x, nights);
        CHECK.same("nights", x.status(), 0);
        return x;
    }

    private static void orders() {
        CHECK.part("promises 50, 51: orders");
        SumsNightwatch x = with(TraysAndTellingTest.BOOK,
                "step left;doze 2;mend rent 1;steal wine 0;step up;step stay;steal cash 0;stop;doze 9;");
        // To CELL 4, which is kept for 2 HOURS, then becomes 8 in the third one and is mended to 9.
        CHECK.lives(x, 7, 8, 0, 5, 3, 3, 0);
        CHECK.same("hour", x.many(5), 5);
        CHECK.same("watch", x.watch(), 1);
        CHECK.same("stolen", x.many(9), 3);
        CHECK.same("cell 0", x.cell(0, 0), 0);
        CHECK.same("cell 6", x.cell(6, 0), 0);
        CHECK.same("tapped", x.many(8), 2);
        SumsNightwatch ways = with("wide 3;account a debit;account b debit;account c debit;watch b 1;",
                "step up;step left;step down;step right;step stay;");
        CHECK.lives(ways, 0, 5, 0, 5, 5, 0, 0);
        CHECK.same("around", ways.watch(), 4);
        CHECK.same("again", ways.live(0), 5);
        CHECK.same("hour", ways.many(5), 10);
    }

    private static void draws() {
        CHECK.part("promise 50: draws");
        // Seed 0: s is 10,853, by 8 1,356, by 16 12; then 11,404, 1,425, by 5 0.
        SumsNightwatch x = with(TraysAndTellingTest.BOOK, "any;");
        CHECK.lives(x, 0, 1, 0, 1, 1, 0, 0);
        CHECK.same("up", x.watch(), 2);
        x.rule(4, 13);
        CHECK.lives(x, 0, 1, 0, 1, 0, 0, 0);
        CHECK.same("dozes", x.watch(), 2);
        x.rule(4, 12);
        CHECK.lives(x, 0, 1, 1, 0, 0, 0, 0);
        CHECK.same("12 is not below 12; up is out of the book", x.many(5), 2);
        // Seed 9,999: 30,074, by 8 3,759, by 16 15; what comes next is reckoned below.
        x.step(1);
        x.rule(4, 15);
        CHECK.lives(x, 9999, 1, 0, 1, 1, 0, 0);
        int s = (30074 * 2971 + 10853) % 65536;
        int[] to = {2, 8, 4, 6, 5};
        CHECK.same("the way", x.watch(), to[s / 8 % 5]);
        // With ODDS 16 all are dozes, one draw each; with 0 none is.
        SumsNightwatch all = with("odds 16;account a debit;account b debit;account c debit;", "loop 50;any;end;");
        CHECK.lives(all, 3, 51, 0, 50, 0, 0, 0);
        SumsNightwatch none = with("odds 0;wide 1;account a debit;", "loop 99;any;end;");
        int stays = 0;
        int drawn = 3;
        for (int i = 0; i < 198; i++) {
            drawn = (drawn * 2971 + 10853) % 65536;
            stays += i % 2 == 1 && drawn / 8 % 5 == 4 ? 1 : 0;
        }
        CHECK.lives(none, 3, 100, 99 - stays, stays, stays, 0, 0);
    }

    private static void tests() {
        CHECK.part("promise 50: when");
        String book = "wide 2;account a debit 1 2;account b credit 1 5;";
        String[] yes = {"wrong = 1", "wrong < 2", "wrong > 0", "digit a 0 = 9", "digit a 1 < 3", "digit b 1 > 4"};
        String[] no = {"wrong = 0", "wrong < 1", "wrong > 1", "digit a 0 = 1", "digit a 1 < 2", "digit b 1 > 5", "even"};
        for (String test : yes) {
            SumsNightwatch x = with(book, "when " + test + ";doze 3;end;doze 1;");
            x.scratch(0, 9);
            CHECK.lives(x, 0, 3, 0, 4, 0, 0, 0);
        }
        for (String test : no) {
            SumsNightwatch x = with(book, "when " + test + ";doze 3;when even;doze 1;end;end;doze 1;");
            x.scratch(0, 9);
            CHECK.lives(x, 0, 2, 0, 1, 0, 0, 0);
        }
        SumsNightwatch even = with(book, "when even;stop;end;steal b 1;when even;stop;end;steal a 1;when even;stop;end;doze 1;");
        // 12 against 15, 12 against 10, 10 against 10.
        CHECK.lives(even, 0, 6, 0, 0, 0, 7, 0);
    }

    private static void loops() {
        CHECK.part("promise 50: loop");
        SumsNightwatch x = with("", "loop 3;loop 2;doze 1;end;doze 5;end;");
        CHECK.lives(x, 0, 13, 0, 21, 0, 0, 0);
        x = with("", "loop 99;end;loop 1;end;");
        CHECK.lives(x, 0, 2, 0, 0, 0, 0, 0);
        x = with("", "loop 99;loop 99;end;end;");
        CHECK.lives(x, 0, 100, 0, 0, 0, 0, 0);
        x = with("", "loop 4;when even;loop 2;doze 1;end;end;end;doze 1;");
        CHECK.lives(x, 0, 18, 0, 9, 0, 0, 0);
        x = with("", "loop 9;doze 1;stop;end;doze 1;");
        CHECK.lives(x, 0, 3, 0, 1, 0, 0, 0);
    }

    private static void atMost() {
        CHECK.part("promise 50: 300 orders");
        SumsNightwatch x = with("", "loop 99;doze 1;doze 1;doze 1;end;doze 1;doze 1;");
        CHECK.lives(x, 0, 300, 0, 299, 0, 0, 0);
        x = with("", "loop 99;doze 1;doze 1;doze 1;end;doze 1;doze 1;doze 1;");
        CHECK.lives(x, 0, 300, 0, 299, 0, 0, 1);
        x = with("", "loop 99;doze 1;doze 1;doze 1;end;doze 1;doze 1;loop 2;end;");
        CHECK.lives(x, 0, 300, 0, 299, 0, 0, 1);
        x = with("", "loop 99;doze 1;doze 1;doze 1;end;doze 1;doze 1;stop;");
        CHECK.lives(x, 0, 300, 0, 299, 0, 0, 1);
        x = with("", "loop 99;doze 1;doze 1;doze 1;end;doze 1;stop;doze 1;");
        CHECK.lives(x, 0, 300, 0, 298, 0, 0, 0);
        x = with("", "loop 1;loop 99;doze 1;doze 1;doze 1;end;doze 1;end;");
        CHECK.lives(x, 0, 300, 0, 298, 0, 0, 0);
        x = with("", "loop 2;loop 99;doze 1;doze 1;doze 1;end;doze 1;end;");
        CHECK.lives(x, 0, 300, 0, 298, 0, 0, 1);
        x = with("", "loop 99;loop 99;doze 24;end;end;");
        CHECK.lives(x, 0, 300, 0, 296 * 24, 0, 0, 1);
    }

    private static void missed() {
        CHECK.part("promises 50, 51: missed");
        SumsNightwatch x = with("wide 2;account a debit 1 0;",
                "step up;step down;step left;mend a 0;steal a 1;steal a 0;steal a 0;mend a 0;mend a 0;");
        CHECK.lives(x, 0, 9, 7, 0, 0, 1, 0);
        CHECK.same("no hour went by", x.many(5), 0);
        SumsNightwatch none = with("odds 0;", "any;step stay;step up;doze 2;any;");
        CHECK.lives(none, 0, 5, 4, 2, 0, 0, 0);
        SumsNightwatch late = with("odds 16;account a debit 1;law 1 becomes 2;", "doze 24;any;step stay;doze 1;");
        for (int i = 0; i < 101; i++) {
            late.doze(98);
        }
        CHECK.same("hour", late.many(5), 9898);
        late.doze(99);
        late.scratch(0, 1);
        // HOUR 9,997: 24 are too many as a whole; any dozes, one STEP, then no more.
        CHECK.lives(late, 0, 4, 2, 2, 1, 0, 0);
        CHECK.same("hour", late.many(5), 9999);
        CHECK.same("digit", late.cell(0, 0), 2);
        CHECK.lives(late, 0, 4, 4, 0, 0, 0, 0);
        CHECK.same("nothing tapped any more", late.many(8), 1);
    }

    private static void toTheLastHour() {
        CHECK.part("promise 50: to hour 9,999");
        SumsNightwatch x = with("", "doze 24;doze 1;");
        for (int i = 0; i < 105; i++) {
            x.doze(95);
        }
        CHECK.same("hour", x.many(5), 9975);
        CHECK.lives(x, 0, 2, 1, 24, 0, 0, 0);
        CHECK.same("hour", x.many(5), 9999);
    }

    private static void live() {
        CHECK.part("promises 50, 51: refused");
        SumsNightwatch x = new SumsNightwatch();
        CHECK.refused(x, "no nights", x.live(0), 8);
        CHECK.refused(x, "seed first", x.live(-1), 5);
        CHECK.refused(x, "seed first", x.live(10000), 5);
        CHECK.refused(x, "there was none", x.lived(4), 8);
        CHECK.refused(x, "what first", x.lived(5), 5);
        CHECK.refused(x, "what first", x.lived(-1), 5);
        Check.nights(x, "doze 7;");
        CHECK.refused(x, "still none", x.lived(0), 8);
        CHECK.call(x, "live", x.live(9999), 1, 0);
        CHECK.refused(x, "live", x.live(10000), 5);
        CHECK.call(x, "as it was", x.lived(1), 7, 0);
        x.book(0);
        CHECK.refused(x, "no nights any more", x.live(1), 8);
        CHECK.call(x, "as it was", x.lived(1), 7, 0);
        x.nights(0);
        CHECK.lives(x, 0, 0, 0, 0, 0, 0, 0);
    }

    private static void mean() {
        CHECK.part("promise 52");
        String book = "wide 1;odds 8;account a debit 1;account b credit 1;law 1 becomes 2;";
        SumsNightwatch x = Check.withBook(book);
        CHECK.refused(x, "no nights", x.mean(0, 1), 8);
        Check.nights(x, "any;");
        // Seed 0: 12, a STEP up, MISSED: 0. Seed 1: 13,824, 1,728, 0, a DOZE: 2. Seed 2: 16,795, 2,099, 3: 2.
        CHECK.call(x, "seed 0", x.mean(0, 1), true, 0);
        CHECK.fraction(x, "seed 0", 0, 1);
        CHECK.call(x, "0, 1", x.mean(0, 2), true, 0);
        CHECK.fraction(x, "0, 1", 1, 1);
        CHECK.call(x, "0, 1, 2", x.mean(0, 3), true, 0);
        CHECK.fraction(x, "0, 1, 2", 4, 3);
        CHECK.call(x, "1, 2", x.mean(1, 2), true, 0);
        CHECK.fraction(x, "1, 2", 2, 1);
        CHECK.same("all stays", x.many(5) * 100 + x.many(7) * 10 + x.many(8), 0);
        CHECK.refused(x, "nothing was lived", x.lived(0), 8);
        CHECK.call(x, "the last 20", x.mean(9980, 20), true, 0);
        int[][] bad = {{9981, 20}, {0, 21}, {0, 0}, {-1, 1}, {10000, 1}, {9999, 2}, {0, Integer.MAX_VALUE},
            {Integer.MAX_VALUE, Integer.MAX_VALUE}, {0, Integer.MIN_VALUE}};
        x.mean(0, 3);
        for (int[] b : bad) {
            CHECK.refused(x, "mean " + b[0] + " " + b[1], x.mean(b[0], b[1]), 5);
        }
        CHECK.fraction(x, "as it was", 4, 3);
        CHECK.call(x, "9,999", x.mean(9999, 1), true, 0);
        SumsNightwatch none = with("", "doze 1;");
        CHECK.call(none, "no accounts", none.mean(5, 5), true, 0);
        CHECK.fraction(none, "no accounts", 0, 1);
        SumsNightwatch bare = new SumsNightwatch();
        CHECK.refused(bare, "numbers first", bare.mean(0, 0), 5);
    }

    private static void marks() {
        CHECK.part("promises 53, 54");
        SumsNightwatch x = Check.withBook(TraysAndTellingTest.BOOK);
        CHECK.refused(x, "no marks", x.back(), 8);
        CHECK.call(x, "one", x.mark(), 1, 0);
        x.doze(1);
        CHECK.call(x, "two", x.mark(), 2, 0);
        x.doze(1);
        CHECK.call(x, "three", x.mark(), 3, 0);
        x.doze(1);
        CHECK.refused(x, "a fourth", x.mark(), 7);
        for (int i = 2; i >= 0; i--) {
            CHECK.call(x, "back", x.back(), i, 0);
            CHECK.same("hour", x.many(5), i);
            CHECK.same("wrong", x.many(7), new int[] {0, 3, 4}[i]);
        }
        CHECK.refused(x, "no more", x.back(), 8);
        CHECK.same("as it was", x.many(5), 0);
        x.mark();
        x.back();
        CHECK.call(x, "one again", x.mark(), 1, 0);
    }

    private static void marksKeep() {
        CHECK.part("promises 53, 54: what is kept");
        SumsNightwatch x = with(TraysAndTellingTest.BOOK, "loop 2;step left;end;steal cash 1;");
        x.step(4);
        x.scratch(0, 6);
        x.vouch(0);
        x.steal(5);
        x.mark();
        x.tray(0, 0, 1);
        x.live(0);
        x.rule(3, 7);
        x.rule(4, 7);
        x.enact(1, 2, 0, 0);
        x.repeal(0);
        x.dozes(1, 1);
        Check.book(x, "wide 5;account other credit 1 2 3 4 5;");
        Check.nights(x, "doze 24;doze 24;");
        Check.book(x, "!");
        CHECK.call(x, "back", x.back(), 0, 0);
        CHECK.many(x, 3, 4, 3, 2, 4, 1, 9, 4, 32, 5, 0);
        CHECK.same("watch", x.watch(), 5);
        CHECK.same("true", x.cell(0, 1), 6);
        CHECK.same("digit", x.cell(5, 0), 0);
        CHECK.same("law", x.law(0, 0), 7);
        CHECK.same("kind", x.account(0, 0), 0);
        // What is no part of the BOOK or the NIGHTS is not taken back.
        CHECK.same("tray", x.tray(0, 4, 0) ? 1 : 0, 0);
        CHECK.call(x, "tray", x.read(0, 0), 0, 0);
        CHECK.fault(x, "fault", 1, 0);
        CHECK.fraction(x, "fraction", 7, 16);
        CHECK.same("lived of then", x.lived(2), 2);
        CHECK.lives(x, 0, 4, 0, 2, 2, 1, 0);
        CHECK.call(x, "its names", Check.nights(x, "mend wine 2;"), 1, 0);
        CHECK.refused(x, "no other names", Check.nights(x, "mend other 2;"), 10);
        SumsNightwatch bare = new SumsNightwatch();
        bare.mark();
        Check.book(bare, TraysAndTellingTest.BOOK);
        Check.nights(bare, "any;");
        bare.back();
        CHECK.same("no accounts", bare.many(0), 0);
        CHECK.refused(bare, "no nights", bare.live(0), 8);
    }
}
