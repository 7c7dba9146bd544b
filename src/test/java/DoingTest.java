/** Promises 20 to 28: what is done to a BOOK, and DRIFT. */
public final class DoingTest {
    private static final Check CHECK = new Check();

    public static void main(String[] args) {
        step();
        taps();
        drift();
        doze();
        lastHour();
        mend();
        steal();
        scratch();
        vouch();
        enact();
        repeal();
        rule();
        CHECK.end("DoingTest");
    }

    private static void step() {
        CHECK.part("promise 20");
        SumsNightwatch x = Check.withBook(TraysAndTellingTest.BOOK);
        int[] ways = {0, 2, 2, 1, 1, 3, 4};
        int[] due = {2, 1, 0, 3, 6, 7, 7};
        for (int i = 0; i < ways.length; i++) {
            CHECK.call(x, "step " + ways[i], x.step(ways[i]), due[i], 0);
            CHECK.same("hour", x.many(5), i + 1);
            CHECK.same("watch", x.watch(), due[i]);
        }
        CHECK.refused(x, "down out of the book", x.step(1), 9);
        x.step(2);
        CHECK.refused(x, "left out of the book, not to the row ahead", x.step(2), 9);
        x.step(3);
        x.step(3);
        CHECK.refused(x, "right out of the book", x.step(3), 9);
        x.step(0);
        x.step(0);
        CHECK.refused(x, "up out of the book", x.step(0), 9);
        CHECK.same("hours that went by", x.many(5), 12);
        CHECK.same("watch", x.watch(), 2);
        CHECK.refused(x, "way 5", x.step(5), 5);
        CHECK.refused(x, "way -1", x.step(-1), 5);
        x.book(0);
        CHECK.refused(x, "no accounts", x.step(4), 8);
        CHECK.refused(x, "no accounts, no way", x.step(9), 5);
    }

    private static void taps() {
        CHECK.part("promise 20, taps");
        SumsNightwatch x = Check.withBook("wide 3;tap 3;account a debit 1 1 1;law 1 becomes 2;");
        x.step(4);
        CHECK.same("tapped ahead of the drift", Check.digits(x), 122);
        CHECK.same("an hour less", x.cell(0, 2), 2);
        x.step(3);
        CHECK.same("still", Check.digits(x), 122);
        CHECK.same("set", x.many(8), 3);
        x.step(2);
        CHECK.same("tapped anew, not longer", x.cell(0, 2), 2);
        x.doze(1);
        CHECK.same("left", x.cell(0, 2) * 10 + x.cell(1, 2), 10);
        x.doze(1);
        CHECK.same("still", Check.digits(x), 122);
        CHECK.same("none", x.many(8), 0);
        x.doze(1);
        CHECK.same("drifted", Check.digits(x), 222);
        SumsNightwatch y = Check.withBook("wide 1;tap 1;account a debit 1;law 1 becomes 2;");
        y.step(4);
        CHECK.same("one hour", y.cell(0, 0) * 10 + y.cell(0, 2), 10);
        y.rule(3, 9);
        y.step(4);
        y.rule(3, 2);
        y.step(4);
        CHECK.same("for TAP hours as it is now", y.cell(0, 2), 1);
        CHECK.same("digit", y.cell(0, 0), 1);
        // What is written is not kept by a TAP from being so.
        y.steal(0);
        CHECK.same("stolen though tapped", y.cell(0, 0), 0);
    }

    private static void drift() {
        CHECK.part("drift");
        SumsNightwatch all = Check.withBook("wide 2;account a debit 1 2;law 1 becomes 2 right 2;law 2 becomes 1 left 1;");
        CHECK.same("all at once", all.doze(1), 2);
        CHECK.same("all at once", Check.digits(all), 21);
        SumsNightwatch first = Check.withBook("wide 1;account a debit 1;law 1 becomes 3;law 1 becomes 4;");
        first.doze(1);
        CHECK.same("the first law", Check.digits(first), 3);
        SumsNightwatch same = Check.withBook("wide 1;account a debit 1;law 1 becomes 1;law 1 becomes 4;");
        same.doze(9);
        CHECK.same("the same digit", Check.digits(same), 1);
        SumsNightwatch second = Check.withBook("wide 1;account a debit 1;law 1 becomes 3 left 0;law 1 becomes 4;");
        second.doze(1);
        CHECK.same("nothing is left of it, not even 0", Check.digits(second), 4);
        String rows = "wide 3;account a debit 0 5 0;account b debit 6 1 7;account c debit 0 8 0;";
        String[] laws = {"left 6", "right 7", "above 5", "below 8", "left 7", "right 6", "above 8", "below 5"};
        for (int i = 0; i < 8; i++) {
            SumsNightwatch x = Check.withBook(rows + "law 1 becomes 9 " + laws[i] + ";");
            x.doze(1);
            CHECK.same(laws[i], x.cell(4, 0), i < 4 ? 9 : 1);
        }
        String edges = "wide 2;account a debit 1 0;account b debit 0 1;law 1 becomes 9 ";
        String[] places = {"left 0;", "right 0;", "above 0;", "below 0;"};
        int[] due = {1009, 9001, 1009, 9001};
        for (int i = 0; i < 4; i++) {
            SumsNightwatch x = Check.withBook(edges + places[i]);
            x.doze(1);
            CHECK.same(places[i] + " not around the edge", Check.digits(x), due[i]);
        }
        // A TAPPED neighbour is looked at as it is.
        SumsNightwatch beside = Check.withBook("wide 2;tap 9;account a debit 1 2;law 1 becomes 5;law 2 becomes 3 left 1;");
        beside.step(4);
        CHECK.same("beside a tapped one", Check.digits(beside), 13);
    }

    private static void doze() {
        CHECK.part("promise 21");
        SumsNightwatch x = Check.withBook(TraysAndTellingTest.BOOK);
        CHECK.call(x, "doze 1", x.doze(1), 3, 0);
        CHECK.call(x, "doze 2", x.doze(2), 4, 0);
        CHECK.same("digits", Check.digits(x), 118085250);
        CHECK.same("hour", x.many(5), 3);
        CHECK.same("nothing tapped", x.many(8), 0);
        CHECK.call(x, "doze 99", x.doze(99), 4, 0);
        CHECK.same("hour", x.many(5), 102);
        CHECK.refused(x, "doze 0", x.doze(0), 5);
        CHECK.refused(x, "doze 100", x.doze(100), 5);
        CHECK.refused(x, "doze -1", x.doze(-1), 5);
        // In 99 HOURS a pair that goes to and fro is where an odd number of HOURS brings it.
        SumsNightwatch y = Check.withBook("wide 1;account a debit 1;law 1 becomes 2;law 2 becomes 1;");
        CHECK.same("odd", y.doze(99), 1);
        CHECK.same("even", y.doze(99), 0);
        SumsNightwatch z = Check.withBook("wide 1;tap 9;account a debit 1;law 1 becomes 2;");
        z.step(4);
        CHECK.same("tapped long", z.doze(8), 0);
        CHECK.same("then not", z.doze(1), 1);
        SumsNightwatch w = Check.withBook("wide 1;tap 9;account a debit 1;law 1 becomes 2;");
        w.step(4);
        CHECK.same("tapped, then drifted in one doze", w.doze(99), 1);
        SumsNightwatch none = new SumsNightwatch();
        CHECK.call(none, "no accounts", none.doze(5), 0, 0);
        CHECK.same("hour", none.many(5), 5);
    }

    private static void lastHour() {
        CHECK.part("hour 9,999");
        SumsNightwatch x = Check.withBook(TraysAndTellingTest.BOOK);
        for (int i = 0; i < 100; i++) {
            x.doze(99);
        }
        CHECK.same("hour", x.many(5), 9900);
        CHECK.call(x, "98", x.doze(98), 4, 0);
        CHECK.refused(x, "one too many", x.doze(2), 7);
        CHECK.call(x, "the last", x.step(4), 5, 0);
        CHECK.same("hour", x.many(5), 9999);
        CHECK.refused(x, "step", x.step(4), 7);
        CHECK.refused(x, "step out of the book", x.step(3), 7);
        CHECK.refused(x, "step of no way", x.step(7), 5);
        CHECK.refused(x, "doze", x.doze(1), 7);
        CHECK.refused(x, "doze of none", x.doze(0), 5);
        CHECK.same("hours ahead do not matter", x.wrongIn(300), 4);
        CHECK.call(x, "nor for rounds", x.round(0, 5), 0, 0);
        SumsNightwatch y = new SumsNightwatch();
        for (int i = 0; i < 101; i++) {
            y.doze(99);
        }
        CHECK.refused(y, "no accounts, but the hour first", y.step(4), 7);
    }

    private static void mend() {
        CHECK.part("promise 22");
        SumsNightwatch x = Check.withBook(TraysAndTellingTest.BOOK);
        x.scratch(4, 2);
        CHECK.call(x, "mend", x.mend(4), 2, 0);
        CHECK.same("digit", x.cell(4, 0), 9);
        CHECK.same("hour", x.many(5), 0);
        CHECK.refused(x, "not wrong", x.mend(4), 9);
        CHECK.refused(x, "cell 9", x.mend(9), 2);
        CHECK.refused(x, "cell -1", x.mend(-1), 2);
    }

    private static void steal() {
        CHECK.part("promise 23");
        SumsNightwatch x = Check.withBook(TraysAndTellingTest.BOOK);
        CHECK.call(x, "steal", x.steal(4), 9, 0);
        CHECK.same("digit", x.cell(4, 0), 0);
        CHECK.same("true", x.cell(4, 1), 9);
        CHECK.call(x, "steal", x.steal(1), 7, 0);
        CHECK.same("stolen", x.many(9), 16);
        CHECK.refused(x, "0 stands there", x.steal(4), 9);
        CHECK.refused(x, "cell 9", x.steal(9), 2);
        CHECK.refused(x, "cell -1", x.steal(-1), 2);
        x.mend(4);
        CHECK.call(x, "again", x.steal(4), 9, 0);
        CHECK.same("stolen", x.many(9), 25);
    }

    private static void scratch() {
        CHECK.part("promise 24");
        SumsNightwatch x = Check.withBook(TraysAndTellingTest.BOOK);
        CHECK.call(x, "scratch", x.scratch(1, 0), 7, 0);
        CHECK.call(x, "scratch", x.scratch(1, 9), 0, 0);
        CHECK.same("digit", x.cell(1, 0), 9);
        CHECK.same("nothing stolen", x.many(9), 0);
        CHECK.refused(x, "it has it", x.scratch(1, 9), 9);
        CHECK.refused(x, "10", x.scratch(1, 10), 5);
        CHECK.refused(x, "-1", x.scratch(1, -1), 5);
        CHECK.refused(x, "cell ahead of digit", x.scratch(9, 10), 2);
        CHECK.refused(x, "cell -1", x.scratch(-1, 0), 2);
    }

    private static void vouch() {
        CHECK.part("promise 25");
        SumsNightwatch x = Check.withBook(TraysAndTellingTest.BOOK);
        x.scratch(1, 2);
        CHECK.call(x, "vouch", x.vouch(1), 7, 0);
        CHECK.same("true", x.cell(1, 1), 2);
        CHECK.same("digit", x.cell(1, 0), 2);
        CHECK.same("sum as it is true", x.account(0, 2), 120);
        CHECK.refused(x, "not wrong", x.vouch(1), 9);
        CHECK.refused(x, "cell 9", x.vouch(9), 2);
        CHECK.refused(x, "cell -1", x.vouch(-1), 2);
    }

    private static void enact() {
        CHECK.part("promise 26");
        SumsNightwatch x = Check.withBook("wide 2;account a debit 1 2;law 9 becomes 9;");
        CHECK.call(x, "enact", x.enact(1, 3, 2, 2), 1, 0);
        CHECK.call(x, "beside is not looked at", x.enact(2, 4, 0, -5), 2, 0);
        CHECK.same("law", x.law(2, 0) * 1000 + x.law(2, 1) * 100 + x.law(2, 2) * 10 + x.law(2, 3), 2400);
        x.doze(1);
        CHECK.same("they bear", Check.digits(x), 34);
        int[][] bad = {{-1, 0, 0, 0}, {10, 0, 0, 0}, {0, -1, 0, 0}, {0, 10, 0, 0}, {0, 0, -1, 0}, {0, 0, 5, 0},
            {0, 0, 1, -1}, {0, 0, 4, 10}};
        for (int[] b : bad) {
            CHECK.refused(x, "bad", x.enact(b[0], b[1], b[2], b[3]), 5);
        }
        CHECK.call(x, "all 0", x.enact(0, 0, 1, 0), 3, 0);
        CHECK.call(x, "all 9", x.enact(9, 9, 4, 9), 4, 0);
        for (int i = 5; i < 10; i++) {
            CHECK.call(x, "enact " + i, x.enact(5, 5, 4, 9), i, 0);
        }
        CHECK.refused(x, "an 11th", x.enact(5, 5, 0, 0), 7);
        CHECK.refused(x, "an 11th that can't be", x.enact(5, 10, 0, 0), 5);
        CHECK.same("laws", x.many(1), 10);
    }

    private static void repeal() {
        CHECK.part("promise 27");
        SumsNightwatch x = Check.withBook("wide 1;account a debit 1;law 1 becomes 2;law 1 becomes 3;law 3 becomes 4 below 7;");
        CHECK.call(x, "repeal", x.repeal(0), 2, 0);
        CHECK.same("law 0", x.law(0, 1), 3);
        CHECK.same("law 0 is always", x.law(0, 2) * 10 + x.law(0, 3), 0);
        CHECK.same("law 1", x.law(1, 0) * 10 + x.law(1, 1), 34);
        CHECK.same("law 1, its place", x.law(1, 2) * 10 + x.law(1, 3), 47);
        CHECK.refused(x, "gone", x.repeal(2), 2);
        CHECK.refused(x, "-1", x.repeal(-1), 2);
        x.doze(1);
        CHECK.same("the other one bears", Check.digits(x), 3);
        CHECK.call(x, "the last", x.repeal(1), 1, 0);
        CHECK.call(x, "the only", x.repeal(0), 0, 0);
        CHECK.refused(x, "none", x.repeal(0), 2);
        x.doze(9);
        CHECK.same("no drift", Check.digits(x), 3);
        CHECK.call(x, "a new one", x.enact(3, 9, 0, 0), 0, 0);
    }

    private static void rule() {
        CHECK.part("promise 28");
        SumsNightwatch x = Check.withBook(TraysAndTellingTest.BOOK);
        CHECK.call(x, "tap 9", x.rule(3, 9), true, 0);
        CHECK.call(x, "tap 1", x.rule(3, 1), true, 0);
        CHECK.same("tap", x.many(3), 1);
        CHECK.call(x, "odds 16", x.rule(4, 16), true, 0);
        CHECK.call(x, "odds 0", x.rule(4, 0), true, 0);
        CHECK.same("odds", x.many(4), 0);
        CHECK.refused(x, "tap 0", x.rule(3, 0), 5);
        CHECK.refused(x, "tap 10", x.rule(3, 10), 5);
        CHECK.refused(x, "odds -1", x.rule(4, -1), 5);
        CHECK.refused(x, "odds 17", x.rule(4, 17), 5);
        CHECK.refused(x, "wide", x.rule(2, 3), 5);
        CHECK.refused(x, "5", x.rule(5, 3), 5);
        CHECK.same("as they were", x.many(3) * 100 + x.many(4), 100);
    }
}
