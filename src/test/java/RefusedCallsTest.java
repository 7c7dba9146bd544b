import java.util.ArrayList;
import java.util.List;
import java.util.function.Supplier;
import java.util.function.ToLongFunction;

/**
 * Terms, part ==== 5: every call with every STATUS that its promise names. Each is made on one of two objects of which all
 * is the same: behind it both must still tell the same of everything.
 */
public final class RefusedCallsTest {
    private static final Check CHECK = new Check();
    private static final Doc DOC = new Doc(CHECK);
    private static final int MIN = Integer.MIN_VALUE;
    private static final int MAX = Integer.MAX_VALUE;

    public static void main(String[] args) {
        noTray();
        noSuch();
        missing();
        noPlace();
        numbersOfTexts();
        numbersOfDoing();
        numbersOfAsking();
        belowZero();
        oneTooMany();
        thereIsNone();
        cantBe();
        faults();
        unlikeSorts();
        zeroElse();
        theFirstThatHolds();
        withoutStatus();
        belowZeroOrNone();
        interfaceLines();
        DOC.endOfTerms(5);
        CHECK.end("RefusedCallsTest");
    }

    /** An object in which there is something of everything; TRAY 3 is MISSING, the tape has a text of 20 bytes. */
    private static SumsNightwatch room() {
        SumsNightwatch x = Check.withNights("wide 2;tap 9;odds 5;account aa debit 9 1;account bb debit 9 9;law 1 becomes 2;"
                + "law 2 becomes 1;law 3 becomes 4;watch bb 1;", "doze 1;steal bb 0;");
        x.tray(0, 0, 2);
        x.tray(1, 1, 2);
        x.tray(2, 0, 4);
        x.write(0, 1, 11);
        x.write(1, 0, 12);
        x.write(2, 3, 13);
        x.mark();
        x.step(4);
        x.steal(2);
        x.live(3);
        x.scratch(0, 3);
        x.shame();
        Check.book(x, "wide 9;");
        Check.feed(x, "tap 7;");
        return x;
    }

    private static SumsNightwatch late() {
        SumsNightwatch x = room();
        Check.dozeTo(x, 9999);
        return x;
    }

    private static SumsNightwatch lateWithoutAccounts() {
        SumsNightwatch x = new SumsNightwatch();
        Check.dozeTo(x, 9999);
        return x;
    }

    private static SumsNightwatch full() {
        SumsNightwatch x = room();
        for (int i = 3; i < 10; i++) {
            x.enact(i, i, 0, 0);
        }
        x.mark();
        x.mark();
        Check.feed(x, " ".repeat(880));
        return x;
    }

    /** Everything that an object tells, STATUS left out; it is not used any more then. */
    private static List<Long> look(SumsNightwatch x, boolean atTape) {
        List<Long> all = new ArrayList<>(List.of(x.top(), x.bottom()));
        for (int what = 0; what <= 10; what++) {
            all.add((long) x.many(what));
        }
        for (int what = 0; what < 5; what++) {
            all.add((long) x.lived(what));
            for (int i = 0; i < 5 && what < 4; i++) {
                all.add((long) x.cell(i, what));
                all.add((long) x.account(i, what));
                all.add((long) x.law(i, what));
            }
        }
        all.add((long) x.watch());
        for (int tray = 0; tray < 4; tray++) {
            for (int place = 0; place < 5; place++) {
                all.add(x.read(tray, place));
            }
            // Its sort is seen by how a number is cut.
            x.write(tray, 0, 0x0123456789abcdefL);
            all.add(x.read(tray, 0));
        }
        if (atTape) {
            all.add((long) x.fault(0));
            all.add((long) x.fault(1));
            all.add((long) x.feed(0, 0, 0, 0, 0));
        }
        x.rule(4, 16);
        all.add((long) x.live(7));
        all.add((long) x.lived(1));
        for (int i = 0; i < 4; i++) {
            all.add((long) x.back());
            all.add((long) x.many(5));
        }
        if (atTape) {
            // "tap 7;" and blanks: what was fed is still there, as it was.
            all.add((long) x.book(20));
            all.add((long) x.many(3));
        }
        return all;
    }

    private static void refuse(Supplier<SumsNightwatch> made, int status, String what, ToLongFunction<SumsNightwatch> call) {
        SumsNightwatch asked = made.get();
        SumsNightwatch twin = made.get();
        CHECK.same(what, call.applyAsLong(asked), SumsNightwatch.NONE);
        CHECK.same(what + ", its status", asked.status(), status);
        List<Long> got = look(asked, status != 10);
        List<Long> due = look(twin, status != 10);
        CHECK.same(what + " changes nothing: " + got + ", due is " + due, got.equals(due), true);
    }

    /** A call in a room where there is something of everything. */
    private static void refuse(int status, String what, ToLongFunction<SumsNightwatch> call) {
        refuse(RefusedCallsTest::room, status, what, call);
    }

    private static void refuseNew(int status, String what, ToLongFunction<SumsNightwatch> call) {
        refuse(SumsNightwatch::new, status, what, call);
    }

    /** What false stands for among numbers. */
    private static long no(boolean answer) {
        return answer ? 1 : SumsNightwatch.NONE;
    }

    private static void noTray() {
        DOC.terms(5, "5, 6, 7, 8, 19", "1 no such TRAY (or sort).");
        for (int none : new int[] {-1, 4, MIN, MAX}) {
            refuse(1, "tray", x -> no(x.tray(none, 0, 1)));
            refuse(1, "its sort", x -> no(x.tray(0, none, 1)));
            refuse(1, "write", x -> no(x.write(none, 0, 1)));
            refuse(1, "read", x -> x.read(none, 0));
            refuse(1, "pour", x -> no(x.pour(none, 0, 0, 0, 1)));
            refuse(1, "pour to", x -> no(x.pour(0, 0, none, 0, 1)));
            refuse(1, "copyDigits", x -> x.copyDigits(none));
        }
    }

    private static void noSuch() {
        DOC.terms(5, "14, 16, 17, 22 to 25, 27, 29, 31, 34, 37 to 40", "2 no such ACCOUNT, CELL, LAW.");
        for (int none : new int[] {-1, 4, MIN, MAX}) {
            refuse(2, "cell", x -> x.cell(none, 0));
            refuse(2, "mend", x -> x.mend(none));
            refuse(2, "steal", x -> x.steal(none));
            refuse(2, "scratch", x -> x.scratch(none, 5));
            refuse(2, "vouch", x -> x.vouch(none));
            refuse(2, "digitIn", x -> x.digitIn(none, 0));
            refuse(2, "wrongBy", x -> x.wrongBy(none));
            refuse(2, "bears", x -> x.bears(none));
            refuse(2, "far", x -> x.far(none));
        }
        for (int none : new int[] {-1, 2, MIN, MAX}) {
            refuse(2, "account", x -> x.account(none, 0));
            refuse(2, "past", x -> x.past(none));
            refuse(2, "likely", x -> x.likely(none, 0));
            refuse(2, "leastPast", x -> x.leastPast(none));
        }
        for (int none : new int[] {-1, 3, MIN, MAX}) {
            refuse(2, "law", x -> x.law(none, 0));
            refuse(2, "repeal", x -> x.repeal(none));
        }
        refuseNew(2, "the first cell of none", x -> x.cell(0, 0));
        refuseNew(2, "the first account of none", x -> x.account(0, 0));
        refuseNew(2, "the first law of none", x -> x.law(0, 0));
        refuseNew(2, "far, where no watchman is", x -> x.far(0));
    }

    private static void missing() {
        DOC.terms(5, "6, 7, 8, 19", "3 the TRAY is MISSING.");
        refuse(3, "write", x -> no(x.write(3, 0, 1)));
        refuse(3, "read", x -> x.read(3, 0));
        refuse(3, "pour", x -> no(x.pour(3, 0, 0, 0, 1)));
        refuse(3, "pour to", x -> no(x.pour(0, 0, 3, 0, 1)));
        refuse(3, "pour to itself", x -> no(x.pour(3, 0, 3, 0, 0)));
        refuse(3, "copyDigits", x -> x.copyDigits(3));
    }

    private static void noPlace() {
        DOC.terms(5, "6, 7, 8, 19", "4 a place that the TRAY has not, or too few numbers.");
        for (int none : new int[] {-1, 2, 60, MIN, MAX}) {
            refuse(4, "write", x -> no(x.write(0, none, 1)));
            refuse(4, "read", x -> x.read(0, none));
            refuse(4, "pour", x -> no(x.pour(0, none, 2, 0, 1)));
            refuse(4, "pour to", x -> no(x.pour(2, 0, 0, none, 1)));
        }
        refuse(4, "pour of too few", x -> no(x.pour(0, 0, 2, 0, 3)));
        refuse(4, "pour of too few from a place on", x -> no(x.pour(0, 1, 2, 0, 2)));
        refuse(4, "pour to too few", x -> no(x.pour(2, 0, 0, 0, 3)));
        refuse(4, "pour to too few from a place on", x -> no(x.pour(2, 0, 0, 1, 2)));
        refuse(4, "pour of very many", x -> no(x.pour(0, 1, 2, 1, MAX)));
        refuse(4, "pour of none from beyond", x -> no(x.pour(0, 3, 2, 0, 0)));
        refuse(4, "pour of none to beyond", x -> no(x.pour(0, 0, 2, 5, 0)));
        refuse(4, "pour of none from below", x -> no(x.pour(0, -1, 2, 0, 0)));
        refuse(4, "copyDigits", x -> x.copyDigits(1));
    }

    private static void numbersOfTexts() {
        DOC.terms(5, "5, 10, 11, 13, 14, 16, 17", "5 a number that can't be (a set with what there is none of, too).");
        refuse(5, "a tray of 61", x -> no(x.tray(0, 0, 61)));
        refuse(5, "a tray of very many", x -> no(x.tray(0, 0, MAX)));
        for (int none : new int[] {-1, 21, MIN, MAX}) {
            refuse(5, "book", x -> x.book(none));
            refuse(5, "nights", x -> x.nights(none));
        }
        refuse(RefusedCallsTest::full, 5, "nights above 300", x -> x.nights(301));
        refuse(RefusedCallsTest::full, 5, "a book above 900", x -> x.book(901));
        for (int none : new int[] {-1, MIN, MAX}) {
            refuse(5, "many", x -> x.many(none));
            refuse(5, "cell", x -> x.cell(0, none));
            refuse(5, "account", x -> x.account(0, none));
            refuse(5, "law", x -> x.law(0, none));
            refuse(5, "lived", x -> x.lived(none));
            refuse(5, "rule", x -> no(x.rule(none, 2)));
        }
        refuse(5, "many 11", x -> x.many(11));
        refuse(5, "cell, what 4", x -> x.cell(0, 4));
        refuse(5, "account, what 4", x -> x.account(0, 4));
        refuse(5, "law, what 4", x -> x.law(0, 4));
        refuse(5, "lived, what 5", x -> x.lived(5));
    }

    private static void numbersOfDoing() {
        DOC.terms(5, "20, 21, 24, 26, 28", "5 a number that can't be (a set with what there is none of, too).");
        for (int none : new int[] {-1, 5, MIN, MAX}) {
            refuse(5, "step", x -> x.step(none));
            refuse(5, "enact, its place", x -> x.enact(1, 1, none, 1));
        }
        for (int none : new int[] {-1, 10, MIN, MAX}) {
            refuse(5, "scratch", x -> x.scratch(0, none));
            refuse(5, "enact, its digit", x -> x.enact(none, 1, 0, 1));
            refuse(5, "enact, what it becomes", x -> x.enact(1, none, 0, 1));
            for (int place = 1; place <= 4; place++) {
                int at = place;
                refuse(5, "enact, what is beside", x -> x.enact(1, 1, at, none));
            }
            refuse(5, "rule, tap", x -> no(x.rule(3, none)));
        }
        for (int none : new int[] {-1, 0, 100, MIN, MAX}) {
            refuse(5, "doze", x -> x.doze(none));
        }
        for (int none : new int[] {-1, 17, MIN, MAX}) {
            refuse(5, "rule, odds", x -> no(x.rule(4, none)));
        }
        refuse(5, "rule, tap 0", x -> no(x.rule(3, 0)));
        refuse(5, "rule, wide", x -> no(x.rule(2, 3)));
        refuse(5, "rule, hour", x -> no(x.rule(5, 3)));
    }

    private static void numbersOfAsking() {
        DOC.terms(5, "29, 30, 35, 36, 39, 41, 46 to 48, 50, 52", "5 a number that can't be (a set with what there is none of, too).");
        for (int none : new int[] {-1, 301, MIN, MAX}) {
            refuse(5, "digitIn", x -> x.digitIn(0, none));
            refuse(5, "wrongIn", x -> x.wrongIn(none));
        }
        for (int none : new int[] {-1, 16, 1 << 25, MIN, MAX}) {
            refuse(5, "round, its set", x -> x.round(none, 1));
            refuse(5, "roundAt, its set", x -> x.roundAt(none, 1, 0));
        }
        for (int none : new int[] {-1, 0, 6, MIN, MAX}) {
            refuse(5, "round, its steps", x -> x.round(1, none));
            refuse(5, "roundAt, its steps", x -> x.roundAt(1, none, 0));
        }
        for (int none : new int[] {-1, 2, MIN, MAX}) {
            refuse(5, "roundAt, which", x -> x.roundAt(1, 2, none));
        }
        refuse(5, "likely", x -> x.likely(0, -1));
        refuse(5, "likely", x -> x.likely(0, MIN));
        for (int none : new int[] {-1, 10, MIN, MAX}) {
            refuse(5, "may", x -> x.may(none));
        }
        for (int none : new int[] {-1, 3, MIN, MAX}) {
            refuse(5, "game", x -> x.game(none));
            refuse(5, "moveOf", x -> x.moveOf(none));
        }
        refuse(5, "moveOf 0", x -> x.moveOf(0));
        for (int none : new int[] {-1, 13, MIN, MAX}) {
            refuse(5, "dozes of", x -> no(x.dozes(none, 1)));
            refuse(5, "dozes", x -> no(x.dozes(1, none)));
        }
        for (int none : new int[] {-1, 10000, MIN, MAX}) {
            refuse(5, "live", x -> x.live(none));
            refuse(5, "mean", x -> no(x.mean(none, 1)));
        }
        for (int none : new int[] {-1, 0, 21, MIN, MAX}) {
            refuse(5, "mean of so many", x -> no(x.mean(1, none)));
        }
        refuse(5, "mean beyond 9,999", x -> no(x.mean(9999, 2)));
        refuse(5, "mean beyond 9,999", x -> no(x.mean(9981, 20)));
    }

    private static void belowZero() {
        DOC.terms(5, "5, 8", "6 below 0 (a TRAY's length).");
        refuse(6, "tray", x -> no(x.tray(0, 0, -1)));
        refuse(6, "tray", x -> no(x.tray(3, 0, MIN)));
        refuse(6, "pour", x -> no(x.pour(0, 0, 2, 0, -1)));
        refuse(6, "pour", x -> no(x.pour(0, 0, 2, 0, MIN)));
    }

    private static void oneTooMany() {
        DOC.terms(5, "20, 21, 26, 53", "7 one too many.");
        refuse(RefusedCallsTest::late, 7, "step", x -> x.step(4));
        refuse(RefusedCallsTest::late, 7, "doze", x -> x.doze(1));
        refuse(RefusedCallsTest::lateWithoutAccounts, 7, "doze", x -> x.doze(1));
        refuse(RefusedCallsTest::full, 7, "enact", x -> x.enact(1, 1, 0, 0));
        refuse(RefusedCallsTest::full, 7, "mark", x -> x.mark());
    }

    private static void thereIsNone() {
        DOC.terms(5, "15, 20, 31 to 36, 40, 43 to 47, 49 to 52, 54", "8 there is none.");
        refuseNew(8, "watch", x -> x.watch());
        refuseNew(8, "step", x -> x.step(4));
        refuseNew(8, "round", x -> x.round(0, 1));
        refuseNew(8, "roundAt", x -> x.roundAt(0, 1, 0));
        refuseNew(8, "told", x -> x.told());
        refuseNew(8, "game", x -> x.game(0));
        refuseNew(8, "moveOf", x -> x.moveOf(1));
        refuseNew(8, "shame", x -> no(x.shame()));
        refuseNew(8, "live", x -> x.live(0));
        refuseNew(8, "lived", x -> x.lived(0));
        refuseNew(8, "mean", x -> no(x.mean(0, 1)));
        refuseNew(8, "back", x -> x.back());
        refuse(8, "wrongBy", x -> x.wrongBy(3));
        refuse(8, "evenIn", x -> x.evenIn());
        refuse(8, "stillIn", x -> x.stillIn());
        refuse(8, "bears", x -> x.bears(3));
        refuse(8, "leastPast", x -> x.leastPast(0));
        refuse(8, "told", x -> x.told());
        refuse(8, "rubbed", x -> x.rubbed());
        refuse(8, "rubbedSet", x -> x.rubbedSet());
        Supplier<SumsNightwatch> near = () -> Check.withBook("wide 2;account a debit 9 9;");
        refuse(near, 8, "moveOf", x -> x.moveOf(1));
        refuse(near, 8, "live", x -> x.live(0));
        refuse(near, 8, "mean", x -> no(x.mean(0, 1)));
    }

    private static void cantBe() {
        DOC.terms(5, "20, 22 to 25", "9 it can't be.");
        refuse(9, "step down", x -> x.step(1));
        refuse(9, "step right", x -> x.step(3));
        refuse(9, "mend", x -> x.mend(3));
        refuse(9, "steal", x -> x.steal(2));
        refuse(9, "scratch", x -> x.scratch(3, 9));
        refuse(9, "vouch", x -> x.vouch(3));
    }

    private static void faults() {
        DOC.terms(5, "10, 11, 12", "10 a FAULT.");
        String[] books = {"!", "wide", "watch aa 0;", "tap 0;", "tap 1;tap 1;", "account a debit 1 2 3 4;", "wide 5;tap 9;odds"};
        String[] nights = {"!", "any", "mend cc 0;", "doze 0;", "any;".repeat(31), "loop 1;".repeat(4), "any;any;end;"};
        int[] kinds = {1, 2, 3, 4, 5, 6, 2};
        int[] nightsKinds = {1, 2, 3, 4, 6, 7, 2};
        DOC.terms(5, "10, 11, 12", "A call with another STATUS than 0 gives NONE, or false, and changes nothing but STATUS (but"
                + " book(), nights() with 10 the tape, and what fault() tells).");
        for (int i = 0; i < books.length; i++) {
            String book = books[i];
            String night = nights[i];
            Supplier<SumsNightwatch> emptied = () -> {
                SumsNightwatch x = room();
                x.nights(0);
                Check.nights(x, "doze 1;steal bb 0;");
                return x;
            };
            refuse(emptied, 10, "book " + book, x -> Check.book(x, book));
            refuse(emptied, 10, "nights " + night, x -> Check.nights(x, night));
            SumsNightwatch x = emptied.get();
            Check.book(x, book);
            CHECK.same("fault of " + book, x.fault(0), kinds[i]);
            CHECK.same("the tape is empty", x.feed(0, 0, 0, 0, 0), 20);
            SumsNightwatch y = emptied.get();
            Check.nights(y, night);
            CHECK.same("fault of " + night, y.fault(0), nightsKinds[i]);
            CHECK.same("the tape is empty", y.feed(0, 0, 0, 0, 0), 20);
        }
    }

    private static void unlikeSorts() {
        DOC.terms(5, "8", "11 TRAYS of unlike sorts.");
        refuse(11, "pour", x -> no(x.pour(0, 0, 1, 0, 1)));
        refuse(11, "pour of none", x -> no(x.pour(1, 0, 0, 0, 0)));
        for (int from = 0; from < 4; from++) {
            for (int to = 0; to < 4; to++) {
                SumsNightwatch x = new SumsNightwatch();
                x.tray(0, from, 1);
                x.tray(1, to, 1);
                CHECK.call(x, "sorts " + from + " " + to, x.pour(0, 0, 1, 0, 1), from == to, from == to ? 0 : 11);
            }
        }
    }

    private static void zeroElse() {
        DOC.terms(5, "2, 18, 42", "0 else.");
        SumsNightwatch x = new SumsNightwatch();
        for (int i = 0; i < 3; i++) {
            CHECK.refused(x, "back", x.back(), 8);
            switch (i) {
                case 0 -> CHECK.call(x, "balance of no book", x.balance(), 0, 0);
                case 1 -> CHECK.call(x, "theft of no book", x.theft(), 0, 0);
                default -> CHECK.call(x, "mark", x.mark(), 1, 0);
            }
        }
    }

    private static void theFirstThatHolds() {
        DOC.terms(5, "5 to 54", "STATUS of a call is the first of these that holds:");
        refuse(1, "tray, many", x -> no(x.tray(4, 0, 61)));
        refuse(1, "sort, many", x -> no(x.tray(0, 4, -1)));
        refuse(1, "tray, missing, place", x -> no(x.write(4, -1, 0)));
        refuse(3, "missing, place", x -> no(x.write(3, -1, 0)));
        refuse(3, "missing, place", x -> x.read(3, 99));
        refuse(3, "missing, too few", x -> x.copyDigits(3));
        refuse(2, "cell, what", x -> x.cell(4, 4));
        refuse(2, "account, what", x -> x.account(2, 4));
        refuse(2, "law, what", x -> x.law(3, 4));
        refuse(2, "cell, digit", x -> x.scratch(4, 10));
        refuse(2, "cell, hours", x -> x.digitIn(4, 301));
        refuse(2, "account, sum", x -> x.likely(2, -1));
        refuse(RefusedCallsTest::full, 5, "digit, an 11th", x -> x.enact(10, 1, 0, 0));
        refuse(RefusedCallsTest::full, 5, "beside, an 11th", x -> x.enact(1, 1, 1, 10));
        refuse(RefusedCallsTest::late, 5, "way, hour", x -> x.step(5));
        refuse(RefusedCallsTest::late, 7, "hour, out of the book", x -> x.step(1));
        refuse(RefusedCallsTest::late, 5, "hours, hour", x -> x.doze(100));
        refuse(RefusedCallsTest::lateWithoutAccounts, 7, "hour, no accounts", x -> x.step(4));
        refuseNew(5, "way, no accounts", x -> x.step(-1));
        refuseNew(5, "set, no accounts", x -> x.round(1, 1));
        refuseNew(5, "steps, no accounts", x -> x.round(0, 0));
        refuseNew(5, "set, no accounts", x -> x.roundAt(1, 1, 0));
        refuseNew(5, "which, no accounts", x -> x.roundAt(0, 1, 1));
        refuseNew(5, "turns, no accounts", x -> x.game(3));
        refuseNew(5, "turns, no accounts", x -> x.moveOf(0));
        refuseNew(5, "seed, no nights", x -> x.live(10000));
        refuseNew(5, "what, none was lived", x -> x.lived(5));
        refuseNew(5, "seeds, no nights", x -> no(x.mean(9999, 2)));
    }

    private static void withoutStatus() {
        DOC.terms(5, "2, 3, 4, 9, 12", "status(), fault(), feed(), top(), bottom() have none.");
        SumsNightwatch x = full();
        for (int status : new int[] {0, 5, 8}) {
            if (status == 0) {
                CHECK.call(x, "balance", x.balance(), x.balance(), 0);
            } else {
                CHECK.refused(x, "refused", status == 5 ? x.many(11) : x.evenIn(), status);
            }
            CHECK.same("status()", x.status(), status);
            CHECK.same("status() again", x.status(), status);
            x.fault(0);
            CHECK.same("behind fault()", x.status(), status);
            CHECK.same("fault() of another", x.fault(2), SumsNightwatch.NONE);
            CHECK.same("behind that", x.status(), status);
            CHECK.same("feed() beyond 900", x.feed(0, 0, 0, 0, 0), SumsNightwatch.NONE);
            CHECK.same("behind feed()", x.status(), status);
            x.top();
            CHECK.same("behind top()", x.status(), status);
            x.bottom();
            CHECK.same("behind bottom()", x.status(), status);
        }
        SumsNightwatch y = new SumsNightwatch();
        CHECK.refused(y, "refused", y.many(11), 5);
        CHECK.same("feed()", y.feed(0, 0, 0, 0, 0), 20);
        CHECK.same("behind feed()", y.status(), 5);
    }

    private static void belowZeroOrNone() {
        DOC.terms(5, "7, 18", "Where a number may be below 0, STATUS tells NONE from -1.");
        SumsNightwatch x = Check.withBook("wide 1;account a debit 4;account b credit 5;");
        x.tray(0, 0, 1);
        x.write(0, 0, -1);
        CHECK.refused(x, "NONE", x.read(0, 1), 4);
        CHECK.call(x, "-1", x.read(0, 0), -1, 0);
        CHECK.refused(x, "NONE", x.read(1, 0), 3);
        CHECK.call(x, "balance -1", x.balance(), -1, 0);
    }

    private static void interfaceLines() {
        CHECK.part("terms 5");
        DOC.noEdge(5, "Ahead of the calls `tray`, `write`, `read`, `pour` the interface says: ---- TRAYS.");
        DOC.noEdge(5, "Ahead of the calls `feed`, `book`, `nights`, `fault`, `many`, `cell`, `watch`, `account`, `law`, `balance`,"
                + " `copyDigits` the interface says: ---- texts.");
        DOC.noEdge(5, "Ahead of the calls `step`, `doze`, `mend`, `steal`, `scratch`, `vouch`, `enact`, `repeal`, `rule` the"
                + " interface says: ---- what is done.");
        DOC.noEdge(5, "Ahead of the calls `digitIn`, `wrongIn`, `wrongBy`, `evenIn`, `stillIn`, `bears` the interface says: ----"
                + " HOURS ahead.");
        DOC.noEdge(5, "Ahead of the calls `round`, `roundAt`, `far` the interface says: ---- rounds.");
        DOC.noEdge(5, "Ahead of the calls `past`, `likely`, `leastPast`, `may`, `theft`, `told`, `rubbed`, `rubbedSet` the interface"
                + " says: ---- what stood there.");
        DOC.noEdge(5, "Ahead of the calls `game`, `moveOf`, `dozes`, `shame` the interface says: ---- games, odds.");
        DOC.noEdge(5, "Ahead of the calls `live`, `lived`, `mean` the interface says: ---- NIGHTS.");
        DOC.noEdge(5, "Ahead of the calls `mark`, `back` the interface says: ---- MARKS.");
    }
}
