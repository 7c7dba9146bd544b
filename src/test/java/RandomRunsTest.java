import java.lang.reflect.Method;
import java.util.ArrayList;
import java.util.HashMap;
import java.util.List;
import java.util.Map;
import java.util.Random;

/** Runs of calls by fixed seeds, on SumsNightwatch and on the plain model: every answer must be the same. */
public final class RandomRunsTest {
    private static final String[] NAMES = {"cash", "rent", "wine", "a", "b", "abcdefgh", "zz"};
    private static final String[] BAD_NAMES = {"up", "even", "abcdefghi", "go", "7", ";"};
    private static final String[] STRAYS = {"!", " 12345 ", ";", "<", "A", "\t", "\n", " end;", " account ", " law ",
        " x ", " 3 ", "=", "" + (char) 233, " loop 2;", " when even;", " wide 3;", " tap 10;", " odds 17;"};
    private static final String[] PLACES = {"left", "right", "above", "below"};
    private static final String[] WAYS = {"up", "down", "left", "right", "stay"};

    private final Random random;
    private final Check check;
    private final Map<String, Method> face = new HashMap<>();
    private final Map<String, Integer> answered = new HashMap<>();
    private SumsNightwatch x;
    private PlainModel model;
    private int calls;
    private List<String> namesTold = new ArrayList<>();
    private int wideTold = 3;
    /** Whether the text that is being made may have FAULTS. */
    private boolean mayFail = true;
    /** Few DIGITS in all let LAWS bear often. */
    private int mostDigit = 9;

    private RandomRunsTest(Check check, int seed) {
        this.check = check;
        random = new Random(seed);
        for (Method m : SumsNightwatch.class.getDeclaredMethods()) {
            if (java.lang.reflect.Modifier.isPublic(m.getModifiers())) {
                face.put(m.getName(), m);
            }
        }
    }

    public static void main(String[] args) throws Exception {
        int runs = args.length > 0 ? Integer.parseInt(args[0]) : 1000;
        int from = args.length > 1 ? Integer.parseInt(args[1]) : 0;
        Check check = new Check();
        Map<String, Integer> all = new HashMap<>();
        for (int seed = from; seed < from + runs && check.wrong() < 20; seed++) {
            check.part("run " + seed);
            RandomRunsTest one = new RandomRunsTest(check, seed);
            one.run();
            one.answered.forEach((k, n) -> all.merge(k, n, Integer::sum));
        }
        if (args.length > 2) {
            all.entrySet().stream().sorted(Map.Entry.comparingByKey())
                    .forEach(e -> System.out.println(e.getKey() + " " + e.getValue()));
        }
        check.end("RandomRunsTest");
    }

    private int upTo(int n) {
        return random.nextInt(n + 1);
    }

    private boolean oneIn(int n) {
        return random.nextInt(n) == 0;
    }

    private boolean fails(int n) {
        return mayFail && oneIn(n);
    }

    private <T> T some(T[] all) {
        return all[random.nextInt(all.length)];
    }

    private long call(String name, long... args) throws Exception {
        calls++;
        Method m = face.get(name);
        Object[] given = new Object[args.length];
        for (int i = 0; i < args.length; i++) {
            given[i] = m.getParameterTypes()[i] == long.class ? (Object) args[i] : (Object) (int) args[i];
        }
        Object got = m.invoke(x, given);
        long due = model.call(name, args);
        long is = got instanceof Boolean ? ((Boolean) got ? 1 : 0) : ((Number) got).longValue();
        due = got instanceof Boolean ? Math.max(due, 0) : due;
        String what = "call " + calls + " " + name + java.util.Arrays.toString(args);
        check.same(what, is, due);
        check.same(what + " status", x.status(), model.call("status"));
        answered.merge(name + " " + x.status(), 1, Integer::sum);
        return is;
    }

    private void feed(String text) throws Exception {
        byte[] bytes = text.getBytes("ISO-8859-1");
        for (int i = 0; i < bytes.length; i += 20) {
            call("feed", Check.word(bytes, i), Check.word(bytes, i + 4), Check.word(bytes, i + 8),
                    Check.word(bytes, i + 12), Check.word(bytes, i + 16));
        }
    }

    private String digit() {
        return fails(60) ? "" + upTo(12) : "" + upTo(mostDigit);
    }

    private String name() {
        return fails(50) ? some(BAD_NAMES) : fails(50) || namesTold.isEmpty() ? some(NAMES)
                : namesTold.get(random.nextInt(namesTold.size()));
    }

    private String randomBook() {
        StringBuilder b = new StringBuilder();
        namesTold = new ArrayList<>();
        wideTold = 3;
        if (!oneIn(4)) {
            wideTold = 1 + upTo(4);
            b.append("wide ").append(fails(40) ? upTo(7) : wideTold).append(oneIn(3) ? " ;" : ";");
        }
        List<String> parts = new ArrayList<>();
        if (oneIn(2)) {
            parts.add("tap " + (fails(20) ? upTo(12) : 1 + upTo(8)));
        }
        if (oneIn(2)) {
            parts.add("odds " + (fails(20) ? 17 : upTo(16)));
        }
        int laws = fails(20) ? 11 : upTo(10);
        for (int i = 0; i < laws; i++) {
            String law = "law " + digit() + " becomes " + digit();
            parts.add(oneIn(3) ? law : law + " " + some(PLACES) + " " + digit());
        }
        java.util.Collections.shuffle(parts, random);
        int accounts = fails(15) ? 6 : oneIn(12) ? 0 : 1 + upTo(4);
        List<String> names = new ArrayList<>(java.util.Arrays.asList(NAMES));
        java.util.Collections.shuffle(names, random);
        for (int i = 0; i < accounts; i++) {
            String name = fails(60) ? some(BAD_NAMES) : fails(60) ? some(NAMES) : names.get(i);
            namesTold.add(name);
            StringBuilder a = new StringBuilder("account " + name + (oneIn(2) ? " debit" : " credit"));
            int told = fails(40) ? wideTold + 1 : oneIn(3) ? upTo(wideTold) : wideTold;
            for (int d = 0; d < told; d++) {
                a.append(' ').append(digit());
            }
            parts.add(Math.min(parts.size(), i + upTo(parts.size())), a.toString());
        }
        for (String p : parts) {
            b.append(p).append(fails(100) ? " " : oneIn(5) ? " ;\n" : ";");
        }
        if (accounts > 0 && oneIn(2)) {
            b.append("watch ").append(name()).append(' ').append(upTo(fails(20) ? wideTold : wideTold - 1)).append(';');
        }
        return mutated(b.toString());
    }

    private String mutated(String text) {
        if (!fails(4) || text.isEmpty()) {
            return text;
        }
        int at = upTo(text.length() - 1);
        if (oneIn(3)) {
            return text.substring(0, at);
        }
        return text.substring(0, at) + (oneIn(2) ? some(STRAYS) : "") + text.substring(at + upTo(1));
    }

    private String randomNights() {
        StringBuilder b = new StringBuilder();
        int orders = fails(20) ? 31 : upTo(12);
        int open = 0;
        for (int i = 0; i < orders && b.length() < (mayFail ? 300 : 260); i++) {
            if (open > 0 && oneIn(3)) {
                b.append(fails(60) ? "end" : "end;");
                open--;
            }
            int kind = upTo(9);
            if (kind <= 1) {
                b.append("step ").append(fails(50) ? "above" : some(WAYS)).append(';');
            } else if (kind == 2) {
                b.append("doze ").append(fails(30) ? upTo(30) : 1 + upTo(oneIn(3) ? 23 : 3)).append(';');
            } else if (kind <= 4 && !namesTold.isEmpty()) {
                b.append(kind == 3 ? "mend " : "steal ").append(name()).append(' ').append(place()).append(';');
            } else if (kind <= 6) {
                b.append(oneIn(20) ? "stop;" : "any;");
            } else if (open == 3 && !fails(10)) {
                b.append("any ; ");
            } else if (kind == 7) {
                b.append("loop ").append(fails(30) ? upTo(120) : 1 + upTo(oneIn(4) ? 98 : 4)).append(';');
                open++;
            } else {
                b.append("when ").append(test()).append(" ; ");
                open++;
            }
        }
        for (; open > 0; open--) {
            b.append(fails(40) ? "" : "end;");
        }
        return mutated(b.toString());
    }

    private String place() {
        return "" + upTo(fails(30) ? wideTold : wideTold - 1);
    }

    private String test() {
        String sign = some(new String[] {"<", ">", "="});
        if (oneIn(3)) {
            return "even";
        }
        if (oneIn(2) || namesTold.isEmpty()) {
            return "wrong " + sign + upTo(fails(20) ? 110 : 9);
        }
        return "digit " + name() + " " + place() + sign + " " + digit();
    }

    private long cell() {
        return oneIn(25) ? odd() : upTo(Math.max(0, wideTold * Math.max(1, namesTold.size()) - 1));
    }

    private long account() {
        return oneIn(25) ? odd() : upTo(Math.max(0, namesTold.size() - 1));
    }

    /** A number at an edge, or beyond. */
    private long odd() {
        long[] all = {-1, -2, 0, 5, 9, 10, 11, 25, 26, 60, 61, 99, 100, 300, 301, 9999, 10000, Integer.MAX_VALUE,
            Integer.MIN_VALUE, Integer.MAX_VALUE - 3, 1 << 25, (1 << 25) - 1};
        return all[random.nextInt(all.length)];
    }

    private long some(int least, int most) {
        return oneIn(25) ? odd() : least + random.nextInt(most - least + 1);
    }

    private void text() throws Exception {
        boolean book = oneIn(4);
        mayFail = oneIn(3);
        String text = book ? randomBook() : randomNights();
        feed(text);
        call(book ? "book" : "nights", oneIn(40) ? odd() : text.length());
        lookAtModel();
        call("fault", 0);
        call("fault", 1);
        call("fault", 2);
    }

    private void all() throws Exception {
        for (int i = 0; i <= 10; i++) {
            call("many", i);
        }
        call("watch");
        call("balance");
        for (int c = 0; c < wideTold * namesTold.size() && c < 25; c++) {
            call("cell", c, upTo(3));
        }
    }

    private void run() throws Exception {
        x = new SumsNightwatch();
        model = new PlainModel();
        mostDigit = new int[] {1, 2, 3, 5, 9}[upTo(4)];
        feed(randomBook());
        if (oneIn(8)) {
            all();
        }
        call("book", 0);
        mayFail = false;
        String first = randomBook();
        feed(first);
        call("book", first.length());
        if (oneIn(6)) {
            for (int i = 0; i < 101; i++) {
                call("doze", 99);
            }
        }
        while (calls < 480) {
            switch (upTo(14)) {
                case 0 -> text();
                case 1 -> trays();
                case 2 -> all();
                case 3, 4, 5, 6 -> does();
                case 7, 8, 9 -> asks();
                case 10, 11 -> seeks();
                case 12 -> lives();
                case 13 -> call(oneIn(2) ? "mark" : "back");
                default -> edges();
            }
            lookAtModel();
            call("top");
            call("bottom");
        }
    }

    /** What later calls and texts name should mostly be there. */
    private void lookAtModel() {
        namesTold = new ArrayList<>(model.names());
        wideTold = model.wide();
    }

    private void trays() throws Exception {
        switch (upTo(5)) {
            case 0 -> call("tray", some(0, 3), some(0, 3), some(0, 60));
            case 1 -> call("write", some(0, 3), some(0, 30), random.nextLong());
            case 2 -> call("read", some(0, 3), some(0, 30));
            case 3 -> call("pour", some(0, 3), some(0, 20), some(0, 3), some(0, 20), some(0, 20));
            case 4 -> call("copyDigits", some(0, 3));
            default -> call("tray", some(0, 3), 1, 40);
        }
    }

    private void does() throws Exception {
        switch (upTo(12)) {
            case 0, 1, 2, 3 -> call("step", some(0, 4));
            case 4 -> call("doze", oneIn(3) ? some(1, 99) : some(1, 4));
            case 5 -> call("mend", cell());
            case 6 -> call("steal", cell());
            case 7 -> call("scratch", cell(), some(0, 9));
            case 8 -> call("vouch", cell());
            case 9 -> call("enact", some(0, mostDigit), some(0, mostDigit), some(0, 4), some(0, mostDigit));
            case 10 -> call("repeal", some(0, 9));
            case 11 -> call("rule", 3, some(1, 9));
            default -> call("rule", some(3, 4), some(0, 16));
        }
    }

    private void asks() throws Exception {
        switch (upTo(9)) {
            case 0 -> call("digitIn", cell(), some(0, oneIn(2) ? 300 : 6));
            case 1 -> call("wrongIn", some(0, oneIn(2) ? 300 : 6));
            case 2 -> call("wrongBy", cell());
            case 3 -> call("evenIn");
            case 4 -> call("stillIn");
            case 5 -> call("bears", cell());
            case 6 -> call("far", cell());
            case 7 -> call("account", account(), some(0, 3));
            case 8 -> call("law", some(0, 9), some(0, 3));
            default -> call("shame");
        }
    }

    private void seeks() throws Exception {
        int cells = Math.min(25, wideTold * namesTold.size());
        switch (upTo(12)) {
            case 0 -> rounds(oneIn(20) ? odd() : random.nextInt(1 << cells));
            case 1 -> rounds((1 << cells) - 1);
            case 2, 3 -> pasts();
            case 4 -> call("may", some(0, 9));
            case 5 -> call("theft");
            case 6 -> call("told");
            case 7 -> call("rubbed");
            case 8 -> call("rubbedSet");
            case 9 -> call("game", some(0, 2));
            case 10 -> call("moveOf", some(0, 2));
            default -> call("dozes", some(0, oneIn(10) ? 12 : 7), some(0, 12));
        }
    }

    private void rounds(long set) throws Exception {
        // The plain model tries all five to the n-th rounds, so the long ones are rare.
        long n = oneIn(30) ? some(1, 5) : 1 + upTo(2);
        call("round", set, n);
        call("roundAt", set, n, some(0, (int) Math.max(1, Math.min(n, 5)) - 1));
    }

    private void pasts() throws Exception {
        if (wideTold > 3 && !oneIn(20)) {
            return;
        }
        long account = account();
        long least = call("leastPast", account);
        call("past", account);
        call("likely", account, oneIn(3) ? Math.max(least, 0) : oneIn(6) ? odd() : upTo(999));
    }

    private void lives() throws Exception {
        switch (upTo(4)) {
            case 0, 1 -> call("live", some(0, 9999));
            case 2 -> call("mean", some(0, 9999), some(1, 20));
            default -> {
                for (int i = 0; i <= 4; i++) {
                    call("lived", i);
                }
            }
        }
    }

    /** Calls with numbers at the edges alone. */
    private void edges() throws Exception {
        String[] all = face.keySet().stream().sorted().toArray(String[]::new);
        String name = some(all);
        if (name.equals("feed") || name.equals("round") || name.equals("roundAt") || name.equals("past")) {
            return;
        }
        int many = face.get(name).getParameterCount();
        long[] args = new long[many];
        for (int i = 0; i < many; i++) {
            args[i] = odd();
        }
        if (!(name.equals("leastPast") || name.equals("likely")) || wideTold <= 3) {
            call(name, args);
        }
    }
}
