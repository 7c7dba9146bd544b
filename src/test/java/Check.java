import java.nio.charset.StandardCharsets;

/** What all tests of this project use: answers are compared and counted, texts are fed. */
final class Check {
    private int right = 0;
    private int wrong = 0;
    private String part = "";

    void part(String name) {
        part = name;
    }

    void same(String what, long got, long due) {
        if (got == due) {
            right++;
            return;
        }
        wrong++;
        System.out.println(part + ": " + what + " answered " + got + ", due is " + due);
    }

    void same(String what, boolean got, boolean due) {
        same(what, got ? 1 : 0, due ? 1 : 0);
    }

    /** A call's answer and, right behind it, the STATUS. */
    void call(SumsNightwatch x, String what, long got, long due, int status) {
        same(what, got, due);
        same(what + ", its status", x.status(), status);
    }

    void call(SumsNightwatch x, String what, boolean got, boolean due, int status) {
        call(x, what, got ? 1 : 0, due ? 1 : 0, status);
    }

    void refused(SumsNightwatch x, String what, long got, int status) {
        call(x, what, got, SumsNightwatch.NONE, status);
    }

    void refused(SumsNightwatch x, String what, boolean got, int status) {
        call(x, what, got, false, status);
    }

    void fraction(SumsNightwatch x, String what, long top, long bottom) {
        same(what + ", its top", x.top(), top);
        same(what + ", its bottom", x.bottom(), bottom);
    }

    void fault(SumsNightwatch x, String what, int fault, int place) {
        same(what + ", its fault", x.fault(0), fault);
        same(what + ", its fault's place", x.fault(1), place);
    }

    int wrong() {
        return wrong;
    }

    void end(String name) {
        System.out.println(name + ": " + right + " answers as due, " + wrong + " not");
        if (wrong != 0) {
            System.exit(1);
        }
    }

    /** A text comes to the tape, blanks behind it: how long it is. */
    static int feed(SumsNightwatch x, String text) {
        byte[] bytes = text.getBytes(StandardCharsets.ISO_8859_1);
        for (int i = 0; i < bytes.length; i += 20) {
            x.feed(word(bytes, i), word(bytes, i + 4), word(bytes, i + 8), word(bytes, i + 12), word(bytes, i + 16));
        }
        return bytes.length;
    }

    static int word(byte[] bytes, int at) {
        int word = 0;
        for (int i = at; i < at + 4; i++) {
            word = word << 8 | (i < bytes.length ? bytes[i] & 255 : ' ');
        }
        return word;
    }

    static int book(SumsNightwatch x, String text) {
        return x.book(feed(x, text));
    }

    static int nights(SumsNightwatch x, String text) {
        return x.nights(feed(x, text));
    }

    static SumsNightwatch withBook(String text) {
        SumsNightwatch x = new SumsNightwatch();
        book(x, text);
        return x;
    }

    static SumsNightwatch withNights(String book, String nights) {
        SumsNightwatch x = withBook(book);
        nights(x, nights);
        return x;
    }

    /** DIGITS of all CELLS, read as one number. */
    static long digits(SumsNightwatch x) {
        long all = 0;
        for (int c = 0; c < x.many(6); c++) {
            all = all * 10 + x.cell(c, 0);
        }
        return all;
    }

    static void dozeTo(SumsNightwatch x, int hour) {
        for (int left = hour - x.many(5); left > 0; left -= 99) {
            x.doze(Math.min(99, left));
        }
    }

    /** The first numbers of a TRAY, one DIGIT each, read as one number. */
    static long row(SumsNightwatch x, int tray, int many) {
        long all = 0;
        for (int place = 0; place < many; place++) {
            all = all * 10 + x.read(tray, place);
        }
        return all;
    }

    /** What many() tells, from what 0 on. */
    void many(SumsNightwatch x, int... due) {
        for (int what = 0; what < due.length; what++) {
            call(x, "many " + what, x.many(what), due[what], 0);
        }
    }

    void dozes(SumsNightwatch x, int n, int k, long top, long bottom) {
        String what = "dozes " + n + " " + k;
        call(x, what, x.dozes(n, k), true, 0);
        fraction(x, what, top, bottom);
    }

    /** What live() answers, and what lived() tells of it: MISSED, HOURS, STEPS, stolen, left. */
    void lives(SumsNightwatch x, int seed, int done, int... told) {
        call(x, "live", x.live(seed), done, 0);
        for (int i = 0; i < told.length; i++) {
            call(x, "lived " + i, x.lived(i), told[i], 0);
        }
    }
}
