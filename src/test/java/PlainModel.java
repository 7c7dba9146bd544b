import java.math.BigInteger;
import java.nio.charset.StandardCharsets;
import java.util.ArrayList;
import java.util.Arrays;
import java.util.HashMap;
import java.util.HashSet;
import java.util.LinkedHashMap;
import java.util.List;
import java.util.Map;
import java.util.Set;

/**
 * The document once more, in the slowest and plainest way and with the whole library: whatever can be tried out is
 * tried out in full. It shares no code with SumsNightwatch and is what random runs are compared with.
 */
final class PlainModel {
    static final int NONE = -1;
    private static final Set<String> SET_WORDS = new HashSet<>(Arrays.asList("wide", "tap", "odds", "account",
            "debit", "credit", "law", "becomes", "left", "right", "above", "below", "watch", "step", "up", "down",
            "stay", "doze", "mend", "steal", "any", "when", "wrong", "digit", "even", "loop", "end", "stop"));

    static final class Fault extends RuntimeException {
        private static final long serialVersionUID = 1;
        final int kind;
        final int place;

        Fault(int kind, int place) {
            super(null, null, false, false);
            this.kind = kind;
            this.place = place;
        }
    }

    record Law(int from, int to, String place, int beside) { }

    /** One account's row is row r of digit, truth, tapped. */
    static final class State {
        int wide = 3;
        int tap = 2;
        int odds = 2;
        int hour = 0;
        int stolen = 0;
        int row = 0;
        int column = 0;
        List<String> names = new ArrayList<>();
        List<Boolean> credit = new ArrayList<>();
        List<int[]> digit = new ArrayList<>();
        List<int[]> truth = new ArrayList<>();
        List<int[]> tapped = new ArrayList<>();
        List<Law> laws = new ArrayList<>();
        List<Order> nights = null;

        State copy() {
            State s = new State();
            s.wide = wide;
            s.tap = tap;
            s.odds = odds;
            s.hour = hour;
            s.stolen = stolen;
            s.row = row;
            s.column = column;
            s.names.addAll(names);
            s.credit.addAll(credit);
            digit.forEach(d -> s.digit.add(d.clone()));
            truth.forEach(d -> s.truth.add(d.clone()));
            tapped.forEach(d -> s.tapped.add(d.clone()));
            s.laws.addAll(laws);
            s.nights = nights;
            return s;
        }

        int cells() {
            return names.size() * wide;
        }

        Law bearing(int r, int c) {
            for (Law law : laws) {
                if (law.from != digit.get(r)[c]) {
                    continue;
                }
                if (law.place == null) {
                    return law;
                }
                int rr = r + (law.place.equals("above") ? -1 : law.place.equals("below") ? 1 : 0);
                int cc = c + (law.place.equals("left") ? -1 : law.place.equals("right") ? 1 : 0);
                if (rr >= 0 && rr < names.size() && cc >= 0 && cc < wide && digit.get(rr)[cc] == law.beside) {
                    return law;
                }
            }
            return null;
        }

        boolean drift() {
            List<int[]> after = new ArrayList<>();
            boolean moved = false;
            for (int r = 0; r < names.size(); r++) {
                int[] line = digit.get(r).clone();
                for (int c = 0; c < wide; c++) {
                    Law law = bearing(r, c);
                    if (tapped.get(r)[c] == 0 && law != null) {
                        moved |= line[c] != law.to;
                        line[c] = law.to;
                    }
                }
                after.add(line);
            }
            digit = after;
            return moved;
        }

        boolean pass() {
            boolean moved = drift();
            for (int[] line : tapped) {
                for (int c = 0; c < wide; c++) {
                    if (line[c] > 0) {
                        line[c]--;
                    }
                }
            }
            hour++;
            return moved;
        }

        boolean inBook(int r, int c) {
            return r >= 0 && r < names.size() && c >= 0 && c < wide;
        }

        /** False if the way leads out of the BOOK. */
        boolean walk(int way) {
            int r = row + (way == 0 ? -1 : way == 1 ? 1 : 0);
            int c = column + (way == 2 ? -1 : way == 3 ? 1 : 0);
            if (!inBook(r, c)) {
                return false;
            }
            row = r;
            column = c;
            return true;
        }

        boolean stepAndPass(int way) {
            if (!walk(way)) {
                return false;
            }
            tapped.get(row)[column] = tap;
            pass();
            return true;
        }

        boolean wrong(int cell) {
            return digit.get(cell / wide)[cell % wide] != truth.get(cell / wide)[cell % wide];
        }

        int wrongs() {
            int n = 0;
            for (int c = 0; c < cells(); c++) {
                n += wrong(c) ? 1 : 0;
            }
            return n;
        }

        static int number(int[] line) {
            StringBuilder b = new StringBuilder();
            for (int d : line) {
                b.append(d);
            }
            return Integer.parseInt(b.toString());
        }

        int balance() {
            int b = 0;
            for (int r = 0; r < names.size(); r++) {
                b += credit.get(r) ? -number(digit.get(r)) : number(digit.get(r));
            }
            return b;
        }

        int at(int cell) {
            return digit.get(cell / wide)[cell % wide];
        }

        void put(int cell, int d) {
            digit.get(cell / wide)[cell % wide] = d;
        }
    }

    static final class Order {
        String word;
        String test = "";
        String sign = "";
        int number;
        int cell;
        List<Order> inside;
    }

    record Token(char kind, String text, int place) { }

    private State s = new State();
    private final List<State> marks = new ArrayList<>();
    private final Map<Integer, long[]> trays = new HashMap<>();
    private final Map<Integer, Integer> sorts = new HashMap<>();
    private byte[] tape = new byte[0];
    private int status = 0;
    private long top = 0;
    private long bottom = 1;
    private int fault = NONE;
    private int faultPlace = NONE;
    private int[] lived = null;

    // ---- the texts

    private static List<Token> tokens(String text) {
        List<Token> all = new ArrayList<>();
        int i = 0;
        while (i < text.length()) {
            char c = text.charAt(i);
            int j = i;
            if (c == ' ' || c == '\n') {
                i++;
                continue;
            }
            if (c >= 'a' && c <= 'z') {
                while (j < text.length() && text.charAt(j) >= 'a' && text.charAt(j) <= 'z') {
                    j++;
                }
                all.add(new Token('w', text.substring(i, j), i));
            } else if (c >= '0' && c <= '9') {
                while (j < text.length() && text.charAt(j) >= '0' && text.charAt(j) <= '9') {
                    j++;
                }
                all.add(new Token(j - i > 4 ? '?' : 'n', text.substring(i, j), i));
            } else {
                j = i + 1;
                all.add(new Token(";<>=".indexOf(c) >= 0 ? 's' : '?', text.substring(i, j), i));
            }
            i = j;
        }
        all.add(new Token('e', "", text.length()));
        return all;
    }

    private List<Token> list;
    private int next;

    private Token peek() {
        return list.get(next);
    }

    private Fault unfit() {
        return new Fault(peek().kind == '?' ? 1 : 2, peek().place);
    }

    private boolean isWord(String... words) {
        return peek().kind == 'w' && Arrays.asList(words).contains(peek().text);
    }

    private String word(String... words) {
        if (!isWord(words)) {
            throw unfit();
        }
        return list.get(next++).text;
    }

    private int number(int least, int most) {
        if (peek().kind != 'n') {
            throw unfit();
        }
        int n = Integer.parseInt(peek().text);
        if (n < least || n > most) {
            throw new Fault(4, peek().place);
        }
        next++;
        return n;
    }

    private void sign(String sign) {
        if (peek().kind != 's' || !peek().text.equals(sign)) {
            throw unfit();
        }
        next++;
    }

    private String name() {
        if (peek().kind != 'w' || SET_WORDS.contains(peek().text) || peek().text.length() > 8) {
            throw unfit();
        }
        return peek().text;
    }

    private int knownName(State b) {
        String name = name();
        if (!b.names.contains(name)) {
            throw new Fault(3, peek().place);
        }
        next++;
        return b.names.indexOf(name);
    }

    private State parseBook(String text) {
        list = tokens(text);
        next = 0;
        State b = new State();
        Set<String> told = new HashSet<>();
        while (peek().kind != 'e') {
            if (!isWord("wide", "tap", "odds", "account", "law", "watch")) {
                throw unfit();
            }
            Token begin = peek();
            boolean once = isWord("wide", "tap", "odds", "watch");
            if (once && !told.add(begin.text) || isWord("wide") && !b.names.isEmpty()) {
                throw new Fault(5, begin.place);
            }
            if (isWord("account") && b.names.size() == 5 || isWord("law") && b.laws.size() == 10) {
                throw new Fault(6, begin.place);
            }
            next++;
            switch (begin.text) {
                case "wide" -> b.wide = number(1, 5);
                case "tap" -> b.tap = number(1, 9);
                case "odds" -> b.odds = number(0, 16);
                case "account" -> parseAccount(b);
                case "law" -> parseLaw(b);
                default -> {
                    b.row = knownName(b);
                    b.column = number(0, b.wide - 1);
                }
            }
            sign(";");
        }
        return b;
    }

    private void parseAccount(State b) {
        String name = name();
        if (b.names.contains(name)) {
            throw new Fault(3, peek().place);
        }
        next++;
        String kind = word("debit", "credit");
        int[] line = new int[b.wide];
        for (int c = 0; peek().kind == 'n'; c++) {
            int place = peek().place;
            int d = number(0, 9);
            if (c >= b.wide) {
                throw new Fault(6, place);
            }
            line[c] = d;
        }
        b.names.add(name);
        b.credit.add(kind.equals("credit"));
        b.digit.add(line);
        b.truth.add(line.clone());
        b.tapped.add(new int[b.wide]);
    }

    private void parseLaw(State b) {
        int from = number(0, 9);
        word("becomes");
        int to = number(0, 9);
        if (isWord("left", "right", "above", "below")) {
            String place = list.get(next++).text;
            b.laws.add(new Law(from, to, place, number(0, 9)));
        } else {
            b.laws.add(new Law(from, to, null, 0));
        }
    }

    private int ordersRead;

    private List<Order> parseNights(String text) {
        list = tokens(text);
        next = 0;
        ordersRead = 0;
        List<Order> all = parseOrders(0);
        if (peek().kind != 'e') {
            throw unfit();
        }
        return all;
    }

    private List<Order> parseOrders(int depth) {
        List<Order> all = new ArrayList<>();
        while (isWord("step", "doze", "mend", "steal", "any", "when", "loop", "stop")) {
            if (++ordersRead > 30) {
                throw new Fault(6, peek().place);
            }
            if (isWord("when", "loop") && depth == 3) {
                throw new Fault(7, peek().place);
            }
            Order o = new Order();
            o.word = list.get(next++).text;
            parseRest(o);
            sign(";");
            if (o.word.equals("when") || o.word.equals("loop")) {
                o.inside = parseOrders(depth + 1);
                word("end");
                sign(";");
            }
            all.add(o);
        }
        return all;
    }

    private int cellToken() {
        int r = knownName(s);
        return r * s.wide + number(0, s.wide - 1);
    }

    private void parseRest(Order o) {
        switch (o.word) {
            case "step" -> o.number = Arrays.asList("up", "down", "left", "right", "stay")
                    .indexOf(word("up", "down", "left", "right", "stay"));
            case "doze" -> o.number = number(1, 24);
            case "loop" -> o.number = number(1, 99);
            case "mend", "steal" -> o.cell = cellToken();
            case "when" -> {
                o.test = word("wrong", "digit", "even");
                if (o.test.equals("even")) {
                    return;
                }
                if (o.test.equals("digit")) {
                    o.cell = cellToken();
                }
                if (peek().kind != 's' || peek().text.equals(";")) {
                    throw unfit();
                }
                o.sign = list.get(next++).text;
                o.number = number(0, o.test.equals("digit") ? 9 : 99);
            }
            default -> { }
        }
    }

    // ---- living

    private static final class Ended extends RuntimeException {
        private static final long serialVersionUID = 1;

        Ended() {
            super(null, null, false, false);
        }
    }

    private long drawn;

    private long draw(int n) {
        drawn = (drawn * 2971 + 10853) % 65536;
        return drawn / 8 % n;
    }

    /** missed, hours, steps, stolen, left, done. */
    private int[] liveIn(State b, int seed) {
        drawn = seed;
        int[] told = new int[6];
        try {
            liveOrders(b, b.nights, told);
        } catch (Ended e) {
            // stop, or an ORDER beyond the 300th
        }
        return told;
    }

    private void liveOrders(State b, List<Order> orders, int[] told) {
        for (Order o : orders) {
            if (told[5] == 300) {
                told[4] = 1;
                throw new Ended();
            }
            told[5]++;
            switch (o.word) {
                case "step" -> liveStep(b, o.number, told);
                case "doze" -> liveDoze(b, o.number, told);
                case "mend" -> {
                    if (b.wrong(o.cell)) {
                        b.put(o.cell, b.truth.get(o.cell / b.wide)[o.cell % b.wide]);
                    } else {
                        told[0]++;
                    }
                }
                case "steal" -> {
                    told[0] += b.at(o.cell) == 0 ? 1 : 0;
                    told[3] += b.at(o.cell);
                    b.stolen += b.at(o.cell);
                    b.put(o.cell, 0);
                }
                case "any" -> {
                    if (b.names.isEmpty()) {
                        told[0]++;
                    } else if (draw(16) < b.odds) {
                        liveDoze(b, 1, told);
                    } else {
                        liveStep(b, (int) draw(5), told);
                    }
                }
                case "when" -> {
                    if (holds(b, o)) {
                        liveOrders(b, o.inside, told);
                    }
                }
                case "loop" -> {
                    for (int i = 0; i < o.number; i++) {
                        liveOrders(b, o.inside, told);
                    }
                }
                default -> throw new Ended();
            }
        }
    }

    private static void liveStep(State b, int way, int[] told) {
        if (b.hour == 9999 || !b.stepAndPass(way)) {
            told[0]++;
        } else {
            told[1]++;
            told[2]++;
        }
    }

    private static void liveDoze(State b, int hours, int[] told) {
        if (b.hour + hours > 9999) {
            told[0]++;
            return;
        }
        for (int i = 0; i < hours; i++) {
            b.pass();
        }
        told[1] += hours;
    }

    private static boolean holds(State b, Order o) {
        if (o.test.equals("even")) {
            return b.balance() == 0;
        }
        int is = o.test.equals("wrong") ? b.wrongs() : b.at(o.cell);
        return o.sign.equals("<") ? is < o.number : o.sign.equals(">") ? is > o.number : is == o.number;
    }

    // ---- what the makers of random calls look at

    List<String> names() {
        return s.names;
    }

    int wide() {
        return s.wide;
    }

    // ---- the face, by name

    private long no(int why) {
        status = why;
        return NONE;
    }

    private long yes(long answer) {
        status = 0;
        return answer;
    }

    private long fraction(BigInteger over, BigInteger under) {
        BigInteger common = over.gcd(under);
        top = over.divide(common).longValueExact();
        bottom = under.divide(common).longValueExact();
        return yes(1);
    }

    /** A call with its arguments; booleans are 1 and 0 (so NONE of a boolean is told as 0 by the caller). */
    long call(String name, long... a) {
        switch (name) {
            case "status": return status;
            case "top": return top;
            case "bottom": return bottom;
            case "fault": return a[0] == 0 ? fault : a[0] == 1 ? faultPlace : NONE;
            case "tray": case "write": case "read": case "pour": case "copyDigits": return trayCall(name, a);
            case "feed": case "book": case "nights": return textCall(name, a);
            case "many": case "cell": case "watch": case "account": case "law": case "balance":
                return tellCall(name, a);
            case "step": case "doze": case "mend": case "steal": case "scratch": case "vouch": case "enact":
            case "repeal": case "rule":
                return doCall(name, a);
            case "digitIn": case "wrongIn": case "wrongBy": case "evenIn": case "stillIn": case "bears":
                return aheadCall(name, a);
            case "round": case "roundAt": case "far": return roundCall(name, a);
            case "past": case "likely": case "leastPast": return pastCall(name, a);
            case "may": case "theft": case "told": case "rubbed": case "rubbedSet": return seekCall(name, a);
            case "game": case "moveOf": case "dozes": case "shame": return gameCall(name, a);
            case "live": case "lived": case "mean": return nightCall(name, a);
            case "mark":
                if (marks.size() == 3) {
                    return no(7);
                }
                marks.add(s.copy());
                return yes(marks.size());
            case "back":
                if (marks.isEmpty()) {
                    return no(8);
                }
                s = marks.remove(marks.size() - 1);
                return yes(marks.size());
            default: throw new IllegalStateException(name);
        }
    }

    private long trayCall(String name, long[] a) {
        int t = (int) a[0];
        boolean pour = name.equals("pour");
        if (t < 0 || t > 3 || pour && (a[2] < 0 || a[2] > 3) || name.equals("tray") && (a[1] < 0 || a[1] > 3)) {
            return no(1);
        }
        if (name.equals("tray")) {
            if (a[2] > 60) {
                return no(5);
            }
            if (a[2] < 0) {
                return no(6);
            }
            trays.put(t, new long[(int) a[2]]);
            sorts.put(t, (int) a[1]);
            return yes(1);
        }
        if (!trays.containsKey(t) || pour && !trays.containsKey((int) a[2])) {
            return no(3);
        }
        long[] row = trays.get(t);
        if (pour) {
            long[] to = trays.get((int) a[2]);
            if (!sorts.get(t).equals(sorts.get((int) a[2]))) {
                return no(11);
            }
            if (a[4] < 0) {
                return no(6);
            }
            if (a[1] < 0 || a[3] < 0 || a[1] + a[4] > row.length || a[3] + a[4] > to.length) {
                return no(4);
            }
            long[] was = row.clone();
            for (int i = 0; i < a[4]; i++) {
                to[(int) a[3] + i] = was[(int) a[1] + i];
            }
            return yes(1);
        }
        if (name.equals("copyDigits")) {
            if (row.length < s.cells()) {
                return no(4);
            }
            for (int i = 0; i < s.cells(); i++) {
                row[i] = s.at(i);
            }
            return yes(s.cells());
        }
        if (a[1] < 0 || a[1] >= row.length) {
            return no(4);
        }
        if (name.equals("read")) {
            return yes(row[(int) a[1]]);
        }
        int bits = 8 << sorts.get(t);
        row[(int) a[1]] = a[2] << 64 - bits >> 64 - bits;
        return yes(1);
    }

    private long textCall(String name, long[] a) {
        if (name.equals("feed")) {
            if (tape.length + 20 > 900) {
                return NONE;
            }
            byte[] more = Arrays.copyOf(tape, tape.length + 20);
            for (int i = 0; i < 20; i++) {
                more[tape.length + i] = (byte) ((int) a[i / 4] >>> 24 - i % 4 * 8);
            }
            tape = more;
            return tape.length;
        }
        boolean book = name.equals("book");
        if (a[0] < 0 || a[0] > tape.length || !book && a[0] > 300) {
            return no(5);
        }
        String text = new String(tape, 0, (int) a[0], StandardCharsets.ISO_8859_1);
        tape = new byte[0];
        try {
            if (book) {
                s = parseBook(text);
            } else {
                s.nights = parseNights(text);
            }
        } catch (Fault f) {
            fault = f.kind;
            faultPlace = f.place;
            return no(10);
        }
        fault = 0;
        faultPlace = NONE;
        return yes(book ? s.names.size() : ordersRead);
    }

    private long tellCall(String name, long[] a) {
        switch (name) {
            case "many": return tellMany(a[0]);
            case "cell":
                if (a[0] < 0 || a[0] >= s.cells()) {
                    return no(2);
                }
                if (a[1] < 0 || a[1] > 3) {
                    return no(5);
                }
                int c = (int) a[0];
                int[] told = {s.at(c), s.truth.get(c / s.wide)[c % s.wide], s.tapped.get(c / s.wide)[c % s.wide],
                    s.wrong(c) ? 1 : 0};
                return yes(told[(int) a[1]]);
            case "watch": return s.names.isEmpty() ? no(8) : yes(s.row * s.wide + s.column);
            case "account":
                if (a[0] < 0 || a[0] >= s.names.size()) {
                    return no(2);
                }
                if (a[1] < 0 || a[1] > 3) {
                    return no(5);
                }
                int r = (int) a[0];
                int[] of = {s.credit.get(r) ? 1 : 0, State.number(s.digit.get(r)), State.number(s.truth.get(r)),
                    Arrays.stream(s.digit.get(r)).sum()};
                return yes(of[(int) a[1]]);
            case "law":
                if (a[0] < 0 || a[0] >= s.laws.size()) {
                    return no(2);
                }
                if (a[1] < 0 || a[1] > 3) {
                    return no(5);
                }
                Law law = s.laws.get((int) a[0]);
                int[] is = {law.from, law.to,
                    Arrays.asList(null, "left", "right", "above", "below").indexOf(law.place), law.beside};
                return yes(is[(int) a[1]]);
            default: return yes(s.balance());
        }
    }

    private long tellMany(long what) {
        if (what < 0 || what > 10) {
            return no(5);
        }
        int taps = 0;
        for (int c = 0; c < s.cells(); c++) {
            taps += s.tapped.get(c / s.wide)[c % s.wide] > 0 ? 1 << c : 0;
        }
        int[] all = {s.names.size(), s.laws.size(), s.wide, s.tap, s.odds, s.hour, s.cells(), s.wrongs(), taps,
            s.stolen, s.balance() == 0 ? 1 : 0};
        return yes(all[(int) what]);
    }

    private long doCall(String name, long[] a) {
        boolean ofCell = name.equals("mend") || name.equals("steal") || name.equals("scratch") || name.equals("vouch");
        if (ofCell && (a[0] < 0 || a[0] >= s.cells())) {
            return no(2);
        }
        int c = (int) a[0];
        switch (name) {
            case "step":
                if (a[0] < 0 || a[0] > 4) {
                    return no(5);
                }
                if (s.hour == 9999) {
                    return no(7);
                }
                if (s.names.isEmpty()) {
                    return no(8);
                }
                return s.stepAndPass(c) ? yes(s.row * s.wide + s.column) : no(9);
            case "doze":
                if (a[0] < 1 || a[0] > 99) {
                    return no(5);
                }
                if (s.hour + a[0] > 9999) {
                    return no(7);
                }
                for (int i = 0; i < a[0]; i++) {
                    s.pass();
                }
                return yes(s.wrongs());
            case "mend": case "vouch":
                if (!s.wrong(c)) {
                    return no(9);
                }
                boolean mend = name.equals("mend");
                int[] from = (mend ? s.truth : s.digit).get(c / s.wide);
                int[] into = (mend ? s.digit : s.truth).get(c / s.wide);
                int was = into[c % s.wide];
                into[c % s.wide] = from[c % s.wide];
                return yes(was);
            case "steal":
                if (s.at(c) == 0) {
                    return no(9);
                }
                int much = s.at(c);
                s.stolen += much;
                s.put(c, 0);
                return yes(much);
            case "scratch":
                if (a[1] < 0 || a[1] > 9) {
                    return no(5);
                }
                if (s.at(c) == a[1]) {
                    return no(9);
                }
                int stood = s.at(c);
                s.put(c, (int) a[1]);
                return yes(stood);
            default: return lawCall(name, a);
        }
    }

    private long lawCall(String name, long[] a) {
        switch (name) {
            case "enact":
                boolean bad = a[0] < 0 || a[0] > 9 || a[1] < 0 || a[1] > 9 || a[2] < 0 || a[2] > 4;
                if (bad || a[2] > 0 && (a[3] < 0 || a[3] > 9)) {
                    return no(5);
                }
                if (s.laws.size() == 10) {
                    return no(7);
                }
                String[] places = {null, "left", "right", "above", "below"};
                s.laws.add(new Law((int) a[0], (int) a[1], places[(int) a[2]], a[2] == 0 ? 0 : (int) a[3]));
                return yes(s.laws.size() - 1);
            case "repeal":
                if (a[0] < 0 || a[0] >= s.laws.size()) {
                    return no(2);
                }
                s.laws.remove((int) a[0]);
                return yes(s.laws.size());
            default:
                if (a[0] == 3 && a[1] >= 1 && a[1] <= 9) {
                    s.tap = (int) a[1];
                    return yes(1);
                }
                if (a[0] == 4 && a[1] >= 0 && a[1] <= 16) {
                    s.odds = (int) a[1];
                    return yes(1);
                }
                return no(5);
        }
    }

    private long aheadCall(String name, long[] a) {
        boolean ofCell = name.equals("digitIn") || name.equals("wrongBy") || name.equals("bears");
        if (ofCell && (a[0] < 0 || a[0] >= s.cells())) {
            return no(2);
        }
        if (name.equals("bears")) {
            Law law = s.bearing((int) a[0] / s.wide, (int) a[0] % s.wide);
            if (law == null) {
                return no(8);
            }
            for (int i = 0; i < s.laws.size(); i++) {
                if (s.laws.get(i) == law) {
                    return yes(i);
                }
            }
        }
        State b = s.copy();
        if (name.equals("digitIn") || name.equals("wrongIn")) {
            long hours = a[a.length - 1];
            if (hours < 0 || hours > 300) {
                return no(5);
            }
            for (int i = 0; i < hours; i++) {
                b.pass();
            }
            return yes(name.equals("digitIn") ? b.at((int) a[0]) : b.wrongs());
        }
        for (int h = 0; h <= 300; h++) {
            if (name.equals("wrongBy") && b.wrong((int) a[0]) || name.equals("evenIn") && b.balance() == 0) {
                return yes(h);
            }
            boolean moved = b.pass();
            if (name.equals("stillIn") && !moved) {
                return yes(h);
            }
        }
        return no(8);
    }

    private long roundCall(String name, long[] a) {
        if (name.equals("far")) {
            if (a[0] < 0 || a[0] >= s.cells()) {
                return no(2);
            }
            return yes(walkFar(s.row, s.column, (int) a[0]));
        }
        if (a[0] < 0 || a[0] >= 1L << s.cells() || a[1] < 1 || a[1] > 5) {
            return no(5);
        }
        if (name.equals("roundAt") && (a[2] < 0 || a[2] >= a[1])) {
            return no(5);
        }
        if (s.names.isEmpty()) {
            return no(8);
        }
        int n = (int) a[1];
        int bestWrong = 99;
        int bestStays = -1;
        String bestWays = null;
        for (int code = 0; code < Math.pow(5, n); code++) {
            String ways = Integer.toString(code, 5);
            ways = "0".repeat(n - ways.length()) + ways;
            State b = s.copy();
            boolean inside = true;
            for (int i = 0; i < n && inside; i++) {
                inside = b.stepAndPass(ways.charAt(i) - '0');
            }
            if (!inside) {
                continue;
            }
            int wrong = 0;
            for (int c = 0; c < b.cells(); c++) {
                wrong += (a[0] >> c & 1) == 1 && b.wrong(c) ? 1 : 0;
            }
            int stays = (int) ways.chars().filter(w -> w == '4').count();
            if (wrong < bestWrong || wrong == bestWrong && stays > bestStays) {
                bestWrong = wrong;
                bestStays = stays;
                bestWays = ways;
            }
        }
        return yes(name.equals("round") ? bestWrong : bestWays.charAt((int) a[2]) - '0');
    }

    /** By walking, HOUR for HOUR, to all CELLS that can be come to. */
    private int walkFar(int row, int column, int cell) {
        Set<Integer> there = new HashSet<>();
        there.add(row * s.wide + column);
        for (int far = 0; far < 20; far++) {
            if (there.contains(cell)) {
                return far;
            }
            Set<Integer> more = new HashSet<>(there);
            for (int c : there) {
                for (int way = 0; way < 4; way++) {
                    State b = new State();
                    b.wide = s.wide;
                    b.names = s.names;
                    b.row = c / s.wide;
                    b.column = c % s.wide;
                    if (b.walk(way)) {
                        more.add(b.row * s.wide + b.column);
                    }
                }
            }
            there = more;
        }
        throw new IllegalStateException();
    }

    private long pastCall(String name, long[] a) {
        if (a[0] < 0 || a[0] >= s.names.size()) {
            return no(2);
        }
        if (name.equals("likely") && a[1] < 0) {
            return no(5);
        }
        int r = (int) a[0];
        List<Integer> sums = new ArrayList<>();
        for (int sum = 0; sum < Math.pow(10, s.wide); sum++) {
            State b = s.copy();
            b.tapped.replaceAll(line -> new int[s.wide]);
            int rest = sum;
            for (int c = s.wide - 1; c >= 0; c--, rest /= 10) {
                b.digit.get(r)[c] = rest % 10;
            }
            b.drift();
            if (Arrays.equals(b.digit.get(r), s.digit.get(r))) {
                sums.add(sum);
            }
        }
        if (name.equals("past")) {
            return yes(sums.size());
        }
        if (name.equals("likely")) {
            return yes(sums.stream().filter(sum -> sum == a[1]).count());
        }
        return sums.isEmpty() ? no(8) : yes(sums.get(0));
    }

    private Set<Integer> reach(int d) {
        Set<Integer> all = new HashSet<>();
        all.add(d);
        boolean more = true;
        while (more) {
            more = false;
            for (Law law : s.laws) {
                more |= all.contains(law.from) && all.add(law.to);
            }
        }
        return all;
    }

    private long seekCall(String name, long[] a) {
        if (name.equals("may")) {
            return a[0] < 0 || a[0] > 9 ? no(5) : yes(reach((int) a[0]).stream().mapToInt(d -> 1 << d).sum());
        }
        if (name.equals("theft")) {
            int set = 0;
            for (int c = 0; c < s.cells(); c++) {
                set += reach(s.truth.get(c / s.wide)[c % s.wide]).contains(s.at(c)) ? 0 : 1 << c;
            }
            return yes(set);
        }
        if (name.equals("told")) {
            Map<Integer, Integer> rows = new LinkedHashMap<>();
            Map<Integer, Integer> columns = new LinkedHashMap<>();
            for (int c = 0; c < s.cells(); c++) {
                int by = s.at(c) - s.truth.get(c / s.wide)[c % s.wide];
                rows.merge(c / s.wide, by, Integer::sum);
                columns.merge(c % s.wide, by, Integer::sum);
            }
            rows.values().removeIf(by -> by == 0);
            columns.values().removeIf(by -> by == 0);
            boolean one = rows.size() == 1 && columns.size() == 1
                    && rows.values().iterator().next().equals(columns.values().iterator().next());
            return one ? yes(rows.keySet().iterator().next() * s.wide + columns.keySet().iterator().next()) : no(8);
        }
        int set = rubbedSet();
        return set < 0 ? no(8) : yes(name.equals("rubbed") ? Integer.bitCount(set) : set);
    }

    private boolean canEven(State b, List<Integer> cells) {
        if (cells.isEmpty()) {
            return b.balance() == 0;
        }
        int c = cells.get(0);
        int was = b.at(c);
        boolean can = false;
        for (int d = 0; d <= 9 && !can; d++) {
            if (d != was) {
                b.put(c, d);
                can = canEven(b, cells.subList(1, cells.size()));
            }
        }
        b.put(c, was);
        return can;
    }

    private int rubbedSet() {
        for (int size = 0; size <= 2; size++) {
            int least = Integer.MAX_VALUE;
            for (int i = 0; i < Math.max(1, s.cells()); i++) {
                for (int j = 0; j < Math.max(1, i); j++) {
                    List<Integer> cells = size == 0 ? List.of() : size == 1 ? List.of(i) : List.of(i, j);
                    if (size > 0 && i >= s.cells() || size == 2 && i == j) {
                        continue;
                    }
                    int set = cells.stream().mapToInt(c -> 1 << c).sum();
                    if (set < least && canEven(s.copy(), cells)) {
                        least = set;
                    }
                }
            }
            if (least != Integer.MAX_VALUE) {
                return least;
            }
        }
        return -1;
    }

    /** The thief's best in so many turns; move[0] gets his first CELL (NONE: from none). */
    private int best(State b, int turns, int[] move) {
        if (turns == 0) {
            return 0;
        }
        int best = -1;
        for (int c = 0; c <= b.cells(); c++) {
            boolean none = c == b.cells();
            if (!none && (b.at(c) == 0 || Math.abs(c / b.wide - b.row) + Math.abs(c % b.wide - b.column) < 2)) {
                continue;
            }
            State after = b.copy();
            int much = none ? 0 : b.at(c);
            if (!none) {
                after.put(c, 0);
            }
            int worst = Integer.MAX_VALUE;
            for (int way = 0; way < 5; way++) {
                State then = after.copy();
                if (then.walk(way)) {
                    worst = Math.min(worst, best(then, turns - 1, new int[1]));
                }
            }
            if (much + worst > best) {
                best = much + worst;
                move[0] = none ? NONE : c;
            }
        }
        return best;
    }

    private long gameCall(String name, long[] a) {
        if (name.equals("dozes")) {
            if (a[0] < 0 || a[0] > 12 || a[1] < 0 || a[1] > 12) {
                return no(5);
            }
            BigInteger ways = BigInteger.ZERO;
            for (int hours = 0; hours < 1 << a[0]; hours++) {
                int slept = Integer.bitCount(hours);
                if (slept >= a[1]) {
                    ways = ways.add(BigInteger.valueOf(s.odds).pow(slept)
                            .multiply(BigInteger.valueOf(16 - s.odds).pow((int) a[0] - slept)));
                }
            }
            return fraction(ways, BigInteger.valueOf(16).pow((int) a[0]));
        }
        if (name.equals("shame")) {
            return s.cells() == 0 ? no(8) : fraction(BigInteger.valueOf(s.wrongs()), BigInteger.valueOf(s.cells()));
        }
        if (a[0] < 0 || a[0] > 2 || a[0] == 0 && name.equals("moveOf")) {
            return no(5);
        }
        if (s.names.isEmpty()) {
            return no(8);
        }
        int[] move = {NONE};
        int loot = best(s, (int) a[0], move);
        if (name.equals("game")) {
            return yes(loot);
        }
        return move[0] == NONE ? no(8) : yes(move[0]);
    }

    private long nightCall(String name, long[] a) {
        if (name.equals("lived")) {
            return a[0] < 0 || a[0] > 4 ? no(5) : lived == null ? no(8) : yes(lived[(int) a[0]]);
        }
        long last = name.equals("mean") ? a[0] + a[1] - 1 : a[0];
        if (a[0] < 0 || a[0] > 9999 || last > 9999 || name.equals("mean") && (a[1] < 1 || a[1] > 20)) {
            return no(5);
        }
        if (s.nights == null) {
            return no(8);
        }
        if (name.equals("live")) {
            lived = liveIn(s, (int) a[0]);
            return yes(lived[5]);
        }
        int wrongs = 0;
        for (long seed = a[0]; seed <= last; seed++) {
            State b = s.copy();
            liveIn(b, (int) seed);
            wrongs += b.wrongs();
        }
        return fraction(BigInteger.valueOf(wrongs), BigInteger.valueOf(a[1]));
    }
}
