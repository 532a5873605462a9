import java.lang.reflect.InvocationTargetException;
import java.lang.reflect.Method;
import java.util.ArrayList;
import java.util.Arrays;
import java.util.List;
import java.util.Map;
import java.util.Random;
import java.util.TreeMap;

/** Random runs of up to 512 calls: each answer of StoneVault compared with that of PlainVault. */
public final class WholeModelTest {
    private static final int RUNS = 400;
    private static final int CALLS = 512;
    private static final int[] EDGES = {-2147483648, -2000, -2, -1, 0, 1, 2, 3, 5, 6, 7, 8, 9, 10, 11, 12, 13, 15, 16, 19, 20, 21,
        39, 40, 49, 50, 99, 100, 149, 150, 160, 161, 999, 1000, 1001, 15624, 15625, 65535, 65536, 99999, 100000, 1000000, 1000001,
        1000000000, 1000000001, 1000001000, 1000001001, 2147483647};

    /**
     * How a run's arguments are found, in the order of each method's own: p a PIECE, c a CABINET, k a KIND, w a WEIGHT, a bits,
     * d a DAY, t one of the last DAYS, l a LOAN, g a GIFT, o a PLACE, r an ASKER, s a SCALE, other signs as argument() tells.
     */
    private static final Map<String, String> ARGUMENTS = new TreeMap<>(Map.ofEntries(
            Map.entry("now", "d"), Map.entry("gas", "ca"), Map.entry("stone", "k9wcb"), Map.entry("move", "pc"),
            Map.entry("open", "p"), Map.entry("feed", "nnnnn"), Map.entry("cut", "pf6"), Map.entry("trial", "pea"),
            Map.entry("asker", "97"), Map.entry("rules", "tTm"), Map.entry("lend", "pr"), Map.entry("back", "lweac"),
            Map.entry("loan", "l7"), Map.entry("piece", "p8"), Map.entry("was", "pt5"), Map.entry("weigh", "pswi"),
            Map.entry("drifts", "st3"), Map.entry("found", "6"), Map.entry("thing", "69"), Map.entry("way", "oo7"),
            Map.entry("give", "pLo"), Map.entry("sight", "got"), Map.entry("where", "gt"), Map.entry("ask", "w7a"),
            Map.entry("clear", ""), Map.entry("loss", "e"), Map.entry("best", "kB"), Map.entry("judge", "kj"),
            Map.entry("next", "kaw"), Map.entry("check", "6"), Map.entry("sum", "K8"), Map.entry("count", "C")));

    private static Random random;
    private static int wildness;
    private static StoneVault vault;
    private static PlainVault plain;
    private static List<String> told;

    public static void main(String[] args) throws ReflectiveOperationException {
        int first = args.length > 0 ? Integer.parseInt(args[0]) : 0;
        int runs = args.length > 1 ? Integer.parseInt(args[1]) : RUNS;
        for (int run = first; run < first + runs; run++) {
            random = new Random(run);
            wildness = run % 4 == 0 ? 60 : 400;
            vault = new StoneVault();
            plain = new PlainVault();
            told = new ArrayList<>();
            oneRun(run);
        }
        Expect.end();
    }

    private static int upTo(int n) {
        return random.nextInt(n + 1);
    }

    private static void oneRun(int run) throws ReflectiveOperationException {
        List<String> usual = new ArrayList<>();
        for (String name : ARGUMENTS.keySet()) {
            for (int i = run % 3 == 0 ? 1 : upTo(4); i > 0; i--) {
                usual.add(name);
            }
        }
        for (int i = upTo(9); i > 0; i--) {
            call("stone", arguments("stone"));
        }
        while (told.size() < CALLS) {
            if (usual.isEmpty() || upTo(3) == 0) {
                withTape();
            } else {
                String name = usual.get(upTo(usual.size() - 1));
                call(name, arguments(name));
            }
            if (upTo(2) == 0) {
                look();
            }
        }
    }

    /** One call of both; the first answer that differs ends the run. */
    private static int call(String name, Object... arguments) throws ReflectiveOperationException {
        if (told.size() >= CALLS) {
            return -1;
        }
        told.add(name + Arrays.toString(arguments));
        Object got = ask(vault, name, arguments);
        Object want = ask(plain, name, arguments);
        boolean same = got.equals(want);
        Expect.due(promiseOf(name), "seen in a random run", same, true);
        if (!same) {
            System.out.println(String.join("\n", told));
            System.out.println("answered " + got + ", the plain model " + want);
            System.exit(1);
        }
        return got instanceof Integer ? (Integer) got : 0;
    }

    private static Object ask(Object one, String name, Object[] arguments) throws ReflectiveOperationException {
        for (Method method : one.getClass().getMethods()) {
            if (method.getName().equals(name)) {
                try {
                    method.setAccessible(true);
                    return method.invoke(one, arguments);
                } catch (InvocationTargetException thrown) {
                    return thrown.getCause().toString();
                }
            }
        }
        return "no such method";
    }

    private static int promiseOf(String name) {
        String face = "now gas stone move open feed cut trial asker rules lend back loan piece was weigh drifts found thing way give "
                + "sight where ask clear loss best judge next check sum count";
        return 2 + Arrays.asList(face.split(" ")).indexOf(name);
    }

    private static Object[] arguments(String name) {
        String signs = ARGUMENTS.get(name);
        Object[] arguments = new Object[signs.length()];
        for (int i = 0; i < arguments.length; i++) {
            boolean wild = upTo(wildness) == 0 && signs.charAt(i) != 'b';
            arguments[i] = wild ? Integer.valueOf(wild()) : argument(signs.charAt(i));
        }
        return arguments;
    }

    private static int wild() {
        return upTo(2) == 0 ? random.nextInt() : EDGES[upTo(EDGES.length - 1)];
    }

    private static Object argument(char sign) {
        int today = plain.count(0);
        switch (sign) {
            case 'b': return upTo(3) == 0;
            case 'p': return aPiece();
            case 'c': case '9': return upTo(9);
            case 'k': return upTo(4) == 0 ? upTo(7) : upTo(1);
            case 'K': return upTo(8) - 1;
            case 'w': return aWeight();
            case 'e': return upTo(5) == 0 ? upTo(3000) : upTo(30);
            case 'i': return upTo(40);
            case 'a': return upTo(2) == 0 ? 1 << upTo(15) : upTo(2) == 0 ? upTo(65535) : upTo(3);
            case 'd': return today + (upTo(9) == 0 ? upTo(400) : upTo(5)) - (upTo(9) == 0 ? 1 : 0);
            case 't': return Math.max(0, today - upTo(12)) + upTo(2) / 2;
            case 'T': return today + upTo(30) - 3;
            case 'f': return upTo(15);
            case 'l': return upTo(Math.max(0, plain.count(4)));
            case 'g': return upTo(Math.max(0, plain.count(6) - 1));
            case 'o': return upTo(3) == 0 ? upTo(15) : upTo(5);
            case 'r': return upTo(Math.max(0, plain.count(2) - 1));
            case 's': return upTo(3);
            case 'L': return upTo(99);
            case 'B': return upTo(1) == 0 ? upTo(6) : upTo(1) == 0 ? 10 : -1;
            case 'j': return upTo((int) Math.pow(5, Math.max(0, plain.count(8))));
            case 'C': return upTo(2) == 0 ? 20 + upTo(30) : upTo(10);
            case 'm': return 1 + upTo(20);
            case 'n': return upTo(9) == 0 ? aWeight() : upTo(6);
            default: return upTo(sign - '0');
        }
    }

    private static int aPiece() {
        int n = plain.count(1);
        return upTo(20) == 0 ? n : Math.max(0, upTo(2) == 0 ? upTo(Math.max(0, n - 1)) : n - 1 - upTo(6));
    }

    private static int aWeight() {
        switch (upTo(9)) {
            case 0: return 1 + upTo(999999999);
            case 1: return 1000;
            case 2: return 1 + upTo(4);
            case 3: return 1000 + upTo(20000);
            default: return 50 + upTo(40);
        }
    }

    private static void look() throws ReflectiveOperationException {
        switch (upTo(11)) {
            case 0: case 1: call("piece", aPiece(), 2 + upTo(5)); break;
            case 2: case 3: call("was", aPiece(), Math.max(0, plain.count(0) - upTo(20)), 2 + upTo(2)); break;
            case 4: call("sum", upTo(8) - 1, upTo(7)); break;
            case 5: call("count", upTo(9)); break;
            case 6: call("best", upTo(1), upTo(8) - 1); break;
            case 7: call("thing", upTo(5), upTo(7)); break;
            case 8: call("drifts", upTo(3), plain.count(0), upTo(2)); break;
            case 9: call("where", argument('g'), argument('t')); break;
            case 10: call("loan", argument('l'), upTo(6)); break;
            default: call("next", upTo(1), upTo(3), 1 + upTo(90));
        }
    }

    /** A call that takes its numbers from the tape, with numbers that are mostly right. */
    private static void withTape() throws ReflectiveOperationException {
        switch (upTo(4)) {
            case 0: cut(); break;
            case 1: text(); break;
            case 2: found(); break;
            case 3: check(); break;
            default: back();
        }
    }

    private static void feedAll(List<Integer> numbers) throws ReflectiveOperationException {
        if (plain.count(9) > 0 && upTo(30) != 0) {
            call("check", 0);
        }
        List<Integer> padded = new ArrayList<>(numbers);
        while (padded.size() % 5 != 0) {
            padded.add(upTo(3));
        }
        for (int i = 0; i < padded.size(); i += 5) {
            call("feed", padded.subList(i, i + 5).toArray());
        }
    }

    private static void cut() throws ReflectiveOperationException {
        int p = aPiece();
        int left = Math.max(0, plain.piece(p, 2)) + (upTo(8) == 0 ? 1 : 0);
        int n = 2 + upTo(4);
        List<Integer> parts = new ArrayList<>();
        for (int i = 0; i < n; i++) {
            int part = i == n - 1 && upTo(2) == 0 ? left : left < 1 ? upTo(1) : 1 + upTo(Math.max(0, 2 * left / n));
            parts.add(upTo(40) == 0 ? wild() : part);
            left -= part;
        }
        feedAll(parts);
        call("cut", p, upTo(15), upTo(30) == 0 ? upTo(8) : n);
    }

    private static void found() throws ReflectiveOperationException {
        int n = 1 + upTo(5);
        List<Integer> numbers = new ArrayList<>();
        for (int i = 0; i < 100 && numbers.size() < n; i++) {
            int p = upTo(Math.max(0, plain.count(1) - 1));
            if (!numbers.contains(p) && plain.piece(p, 4) != 12 || upTo(60) == 0) {
                numbers.add(p);
            }
        }
        while (numbers.size() < n) {
            numbers.add(upTo(5));
        }
        for (int i = 0; i < n; i++) {
            int like = numbers.get(upTo(3) == 0 ? upTo(n - 1) : i);
            numbers.add(Math.max(0, plain.piece(like, 2) + upTo(20) - 10));
            numbers.add(upTo(2) == 0 ? upTo(1000) : upTo(20));
            numbers.add(upTo(2) == 0 ? Math.max(0, plain.piece(like, 0)) : 8);
        }
        if (upTo(25) == 0) {
            numbers.set(upTo(numbers.size() - 1), wild());
        }
        feedAll(numbers);
        call("found", upTo(30) == 0 ? upTo(8) : n);
        for (int i = upTo(4); i > 0; i--) {
            call("thing", upTo(n), upTo(7));
        }
    }

    private static void check() throws ReflectiveOperationException {
        List<Integer> numbers = new ArrayList<>();
        for (int p = 0; p < plain.count(1) && numbers.size() < 96; p++) {
            if (plain.piece(p, 4) < 10) {
                numbers.addAll(List.of(p, plain.piece(p, 4), plain.piece(p, 2)));
            }
        }
        if (upTo(2) == 0 && !numbers.isEmpty()) {
            int i = upTo(numbers.size() - 1);
            numbers.set(i, numbers.get(i) + 1);
        }
        if (numbers.size() > 60) {
            return;
        }
        feedAll(numbers);
        call("check", numbers.size() / 3 + (upTo(5) == 0 ? upTo(2) - 1 : 0));
    }

    private static void back() throws ReflectiveOperationException {
        if (upTo(1) == 0) {
            call("lend", aPiece(), argument('r'));
        }
        int i = Math.max(0, plain.count(4) - 1 - upTo(5));
        int had = Math.max(0, plain.piece(plain.loan(i, 0), 2));
        int weight = upTo(5) == 0 ? 0 : Math.max(0, had - upTo(8)) + upTo(15) / 15;
        int eaten = upTo(2) == 0 ? had - weight : upTo(Math.max(0, had - weight));
        call("back", i, weight, eaten, upTo(3) == 0 ? upTo(65535) : 0, upTo(9));
    }

    private static void text() throws ReflectiveOperationException {
        StringBuilder text = new StringBuilder();
        for (int clauses = upTo(9) == 0 ? 11 + upTo(3) : 1 + upTo(3); clauses > 0; clauses--) {
            String[] heads = {"b(", "d" + upTo(60) + "(", "t" + upTo(1000) + "(", "x" + upTo(plain.count(3)) + "." + upTo(3)};
            int head = upTo(3);
            text.append(heads[head]).append(head < 3 ? condition(1) + ")" : "").append(clauses > 1 ? ";" : "");
        }
        if (upTo(4) == 0) {
            String signs = "bdtx0123456789()[]!&|<>=+-*/%;.fhkwmlas";
            text.insert(upTo(text.length()), signs.charAt(upTo(signs.length() - 1)));
        }
        if (text.length() > 160) {
            return;
        }
        List<Integer> numbers = new ArrayList<>();
        for (int i = 0; i < text.length(); i += 4) {
            int number = 0;
            for (int j = i; j < i + 4; j++) {
                number = number << 8 | (j < text.length() ? text.charAt(j) : 32);
            }
            numbers.add(number);
        }
        feedAll(numbers);
        int from = Math.max(0, plain.count(0) - upTo(3));
        call("rules", from, from + upTo(60) - upTo(20) / 20, text.length() - upTo(30) / 30);
    }

    private static String condition(int open) {
        StringBuilder text = new StringBuilder();
        do {
            text.append(text.length() == 0 ? "" : upTo(1) == 0 ? "|" : "&");
            for (int i = upTo(4) / 4; i > 0; i--) {
                text.append('!');
            }
            if (open < 5 && upTo(6) == 0) {
                text.append('(').append(condition(open + 1)).append(')');
            } else {
                text.append(sum(open)).append("<>=".charAt(upTo(2))).append(sum(open));
            }
        } while (upTo(2) == 0);
        return text.toString();
    }

    private static String sum(int open) {
        StringBuilder text = new StringBuilder();
        do {
            text.append(text.length() == 0 ? "" : "" + "+-*/%".charAt(upTo(4)));
            if (open < 5 && upTo(8) == 0) {
                text.append('[').append(sum(open + 1)).append(']');
            } else {
                text.append(upTo(1) == 0 ? "" + upTo(upTo(3) == 0 ? 2000 : 8) : "" + "fhkwmlasd".charAt(upTo(8)));
            }
        } while (upTo(3) == 0);
        return text.toString();
    }
}
