import java.util.ArrayList;
import java.util.Collections;
import java.util.List;
import java.util.Map;
import java.util.TreeMap;

/**
 * The document once more, in the plainest Java: lists, all rows, all orders, every DAY kept whole.
 * WholeModelTest asks it and StoneVault the same; it shares no way of reckoning with that class.
 */
final class PlainVault {
    private static final class Piece {
        int kind;
        int site;
        int weight;
        int met;
        int place;
        int parent = -1;
        int root;
        boolean sealed;

        boolean lies() {
            return place < 10;
        }

        boolean atHand() {
            return lies() && !sealed;
        }
    }

    private static final class Rules {
        int from;
        int to;
        List<PlainRules.Clause> clauses;
    }

    private int today;
    private final int[] gas = new int[10];
    private final List<Integer> tape = new ArrayList<>();
    private final List<Piece> pieces = new ArrayList<>();
    private final long[] came = new long[8];
    private final long[] lost = new long[8];
    private final long[] eaten = new long[8];
    private final long[] missing = new long[8];
    private final TreeMap<Integer, List<int[]>> ends = new TreeMap<>();
    private final List<int[]> askers = new ArrayList<>();
    private final List<Rules> rules = new ArrayList<>();
    private final List<int[]> loans = new ArrayList<>();
    private final List<int[]> weighed = new ArrayList<>();
    private final List<List<Integer>> answers = new ArrayList<>();
    private int things;
    private final int[][] ways = new int[16][16];
    private final List<TreeMap<Integer, List<Integer>>> gifts = new ArrayList<>();
    private int sights;
    private final List<int[]> asks = new ArrayList<>();
    private int loss = 1000;

    private static boolean in(long n, long least, long most) {
        return least <= n && n <= most;
    }

    private boolean has(int p) {
        return in(p, 0, pieces.size() - 1);
    }

    private boolean atHand(int p) {
        return has(p) && pieces.get(p).atHand();
    }

    private int number(int i) {
        return tape.get(4 * i) << 24 | tape.get(4 * i + 1) << 16 | tape.get(4 * i + 2) << 8 | tape.get(4 * i + 3);
    }

    /** What the first n numbers are; the tape is empty then. */
    private int[] take(int n) {
        int[] numbers = new int[n];
        for (int i = 0; i < n; i++) {
            numbers[i] = number(i);
        }
        tape.clear();
        return numbers;
    }

    private void keepDay() {
        List<int[]> state = new ArrayList<>();
        for (Piece piece : pieces) {
            state.add(new int[] {piece.weight, piece.met, piece.place});
        }
        ends.put(today, state);
    }

    public boolean now(int day) {
        if (!in(day, today, 99999)) {
            return false;
        }
        today = day;
        return true;
    }

    public boolean gas(int cabinet, int bits) {
        if (!in(cabinet, 0, 9) || !in(bits, 0, 65535)) {
            return false;
        }
        gas[cabinet] = bits;
        return true;
    }

    public int stone(int kind, int site, int weight, int cabinet, boolean sealed) {
        if (!in(kind, 0, 7) || !in(site, 0, 9) || !in(weight, 1, 1000000000) || !in(cabinet, 0, 9) || pieces.size() == 150) {
            return -1;
        }
        Piece piece = new Piece();
        piece.kind = kind;
        piece.site = site;
        piece.weight = weight;
        piece.place = cabinet;
        piece.sealed = sealed;
        piece.root = pieces.size();
        pieces.add(piece);
        came[kind] += weight;
        keepDay();
        return piece.root;
    }

    public boolean move(int p, int cabinet) {
        if (!has(p) || !in(cabinet, 0, 9) || !pieces.get(p).lies()) {
            return false;
        }
        Piece piece = pieces.get(p);
        piece.place = cabinet;
        if (!piece.sealed) {
            piece.met |= gas[cabinet];
        }
        keepDay();
        return true;
    }

    public boolean open(int p) {
        if (!has(p) || !pieces.get(p).sealed) {
            return false;
        }
        Piece piece = pieces.get(p);
        piece.sealed = false;
        piece.met |= gas[piece.place];
        keepDay();
        return true;
    }

    public int feed(int a, int b, int c, int d, int e) {
        if (tape.size() + 20 > 400) {
            return -1;
        }
        for (int number : new int[] {a, b, c, d, e}) {
            tape.add(number >>> 24);
            tape.add(number >>> 16 & 255);
            tape.add(number >>> 8 & 255);
            tape.add(number & 255);
        }
        return tape.size();
    }

    public int cut(int p, int saw, int n) {
        if (!atHand(p) || !in(saw, 0, 15) || !in(n, 2, 6) || tape.size() < 4 * n) {
            return -1;
        }
        Piece whole = pieces.get(p);
        long left = whole.weight;
        int[] parts = take(n);
        for (int part : parts) {
            left -= part < 1 ? Integer.MAX_VALUE : part;
        }
        if (left < 0) {
            return -2;
        }
        if (pieces.size() + n > 150) {
            return -3;
        }
        int first = pieces.size();
        for (int part : parts) {
            Piece piece = new Piece();
            piece.kind = whole.kind;
            piece.site = whole.site;
            piece.weight = part;
            piece.met = whole.met | 1 << saw;
            piece.place = whole.place;
            piece.parent = p;
            piece.root = whole.root;
            pieces.add(piece);
        }
        lost[whole.kind] += left;
        whole.weight = 0;
        whole.place = 12;
        keepDay();
        return first;
    }

    public int trial(int p, int much, int bits) {
        if (!atHand(p) || !in(much, 0, pieces.get(p).weight) || !in(bits, 0, 65535)) {
            return -1;
        }
        Piece piece = pieces.get(p);
        piece.weight -= much;
        piece.met |= bits;
        eaten[piece.kind] += much;
        if (piece.weight == 0) {
            piece.place = 12;
        }
        keepDay();
        return piece.weight;
    }

    public int asker(int house, int field) {
        if (!in(house, 0, 9) || !in(field, 0, 7) || askers.size() == 20) {
            return -1;
        }
        askers.add(new int[] {house, field});
        return askers.size() - 1;
    }

    public int rules(int from, int to, int n) {
        if (!in(from, 0, 99999) || !in(to, from, 99999) || !in(n, 1, 160) || rules.size() == 20 || tape.size() < n) {
            return -1;
        }
        StringBuilder text = new StringBuilder();
        for (int i = 0; i < n; i++) {
            text.append((char) (int) tape.get(i));
        }
        tape.clear();
        Rules made = new Rules();
        made.from = from;
        made.to = to;
        try {
            made.clauses = PlainRules.read(text.toString());
        } catch (PlainRules.Fault fault) {
            return -1000 * fault.number - fault.place;
        }
        rules.add(made);
        return rules.size() - 1;
    }

    private boolean inForce(int r) {
        return r < rules.size() && in(today, rules.get(r).from, rules.get(r).to);
    }

    /** The CLAUSES of RULES r that count, from the last one on; told are those of all higher RULES. */
    private List<PlainRules.Clause> counting(int r, List<PlainRules.Clause> told) {
        List<PlainRules.Clause> counting = new ArrayList<>();
        for (int j = 0; inForce(r) && j < rules.get(r).clauses.size(); j++) {
            boolean struck = false;
            for (PlainRules.Clause clause : told) {
                struck |= clause.letter == 'x' && clause.first == r && clause.second == j;
            }
            if (!struck) {
                counting.add(0, rules.get(r).clauses.get(j));
            }
        }
        return counting;
    }

    public int lend(int p, int asker) {
        if (!atHand(p) || !in(asker, 0, askers.size() - 1) || loans.size() == 100) {
            return -1;
        }
        Map<Character, Long> letters = letters(p, asker);
        int days = -1;
        int kept = -1;
        boolean barred = false;
        List<PlainRules.Clause> told = new ArrayList<>();
        for (int r = rules.size() - 1; r >= 0; r--) {
            int ruledDays = -1;
            int ruledKept = -1;
            List<PlainRules.Clause> own = counting(r, told);
            told.addAll(own);
            for (PlainRules.Clause clause : own) {
                boolean holds = clause.letter != 'x' && clause.holds(letters);
                barred |= clause.letter == 'b' && holds;
                ruledDays = clause.letter == 'd' && holds && ruledDays < 0 ? clause.first : ruledDays;
                ruledKept = clause.letter == 't' && holds && ruledKept < 0 ? clause.first : ruledKept;
            }
            days = days < 0 ? ruledDays : days;
            kept = kept < 0 ? ruledKept : kept;
        }
        if (barred) {
            return -2;
        }
        Piece piece = pieces.get(p);
        if (piece.met == 0 && (sum(piece.kind, 7) - piece.weight) * 1000 < Math.max(kept, 0) * came[piece.kind]) {
            return -3;
        }
        piece.place = 10;
        loans.add(new int[] {p, asker, today, Math.min(99999, today + (days < 0 ? 30 : days)), -1, 0});
        keepDay();
        return loans.size() - 1;
    }

    private Map<Character, Long> letters(int p, int asker) {
        long out = 0;
        long lacking = 0;
        for (int[] loan : loans) {
            if (loan[1] == asker) {
                out += loan[4] < 0 ? 1 : 0;
                lacking += loan[5];
            }
        }
        Piece piece = pieces.get(p);
        Map<Character, Long> letters = new TreeMap<>();
        letters.put('h', (long) askers.get(asker)[0]);
        letters.put('f', (long) askers.get(asker)[1]);
        letters.put('k', (long) piece.kind);
        letters.put('w', (long) piece.weight);
        letters.put('m', (long) Integer.bitCount(piece.met));
        letters.put('l', sum(piece.kind, 1));
        letters.put('a', out);
        letters.put('s', lacking);
        letters.put('d', (long) today);
        return letters;
    }

    public int back(int i, int weight, int much, int bits, int cabinet) {
        if (!in(i, 0, loans.size() - 1) || loans.get(i)[4] >= 0 || !in(bits, 0, 65535) || !in(cabinet, 0, 9)) {
            return -1;
        }
        Piece piece = pieces.get(loans.get(i)[0]);
        if (!in(weight, 0, piece.weight) || !in(much, 0, piece.weight - weight)) {
            return -1;
        }
        int rest = piece.weight - weight - much;
        loans.get(i)[4] = today;
        loans.get(i)[5] = rest;
        eaten[piece.kind] += much;
        missing[piece.kind] += rest;
        piece.weight = weight;
        piece.met |= bits;
        piece.place = weight == 0 ? 12 : cabinet;
        keepDay();
        return rest;
    }

    public int loan(int i, int what) {
        if (!in(i, 0, loans.size() - 1) || !in(what, 0, 6)) {
            return -1;
        }
        int[] loan = loans.get(i);
        return what < 6 ? loan[what] : loan[4] < 0 && today > loan[3] ? 1 : 0;
    }

    public int piece(int p, int what) {
        if (!has(p) || !in(what, 0, 7)) {
            return -1;
        }
        Piece piece = pieces.get(p);
        return new int[] {piece.kind, piece.site, piece.weight, piece.met, piece.place, piece.parent, piece.root,
            piece.sealed ? 1 : 0}[what];
    }

    public int was(int p, int day, int what) {
        if (!in(day, 0, today) || !in(what, 2, 4) || ends.floorEntry(day) == null) {
            return -1;
        }
        List<int[]> state = ends.floorEntry(day).getValue();
        return in(p, 0, state.size() - 1) ? state.get(p)[what - 2] : -1;
    }

    public boolean weigh(int p, int scale, int read, int slip) {
        if (!has(p) || !pieces.get(p).lies() || !in(scale, 0, 3) || !in(read, 0, 1000001000) || !in(slip, 0, 1000)
                || weighed.size() == 200) {
            return false;
        }
        weighed.add(new int[] {scale, today, read, slip, pieces.get(p).weight});
        return true;
    }

    public int drifts(int scale, int t, int what) {
        if (!in(scale, 0, 3) || !in(t, 0, 99999) || !in(what, 0, 2)) {
            return -2000;
        }
        List<Integer> fitting = new ArrayList<>();
        for (int drift = -1000; drift <= 1000; drift++) {
            boolean fits = true;
            for (int[] one : weighed) {
                fits &= one[0] != scale || one[1] > t || Math.abs(one[2] - drift - one[4]) <= one[3];
            }
            if (fits) {
                fitting.add(drift);
            }
        }
        if (what == 0) {
            return fitting.size();
        }
        return fitting.isEmpty() ? -2000 : what == 1 ? Collections.min(fitting) : Collections.max(fitting);
    }

    public int found(int n) {
        if (!in(n, 1, 6) || tape.size() < 16 * n) {
            return -1;
        }
        int[] told = take(4 * n);
        List<Integer> mixed = new ArrayList<>();
        boolean right = true;
        for (int i = 0; i < n; i++) {
            right &= has(told[i]) && pieces.get(told[i]).place != 12 && !mixed.contains(told[i]);
            right &= in(told[n + 3 * i], 0, 1000001000) && in(told[n + 3 * i + 1], 0, 1000) && in(told[n + 3 * i + 2], 0, 8);
            mixed.add(told[i]);
        }
        if (!right) {
            return -2;
        }
        things = n;
        answers.clear();
        order(told, n, mixed, new ArrayList<>());
        return answers.size();
    }

    private void order(int[] told, int n, List<Integer> mixed, List<Integer> given) {
        int i = given.size();
        if (i == n) {
            answers.add(new ArrayList<>(given));
            return;
        }
        for (int p : mixed) {
            Piece piece = pieces.get(p);
            int off = piece.weight - told[n + 3 * i];
            int kind = told[n + 3 * i + 2];
            if (!given.contains(p) && in(off, -told[n + 3 * i + 1], told[n + 3 * i + 1]) && (kind == 8 || kind == piece.kind)) {
                given.add(p);
                order(told, n, mixed, given);
                given.remove(i);
            }
        }
    }

    public int thing(int i, int what) {
        if (!in(i, 0, things - 1)) {
            return -1;
        }
        TreeMap<Integer, Boolean> may = new TreeMap<>();
        for (List<Integer> answer : answers) {
            may.put(answer.get(i), true);
        }
        if (what == 0) {
            return may.size() == 1 ? may.firstKey() : -1;
        }
        return what == 1 ? may.size() : in(what, 2, may.size() + 1) ? new ArrayList<>(may.keySet()).get(what - 2) : -1;
    }

    public boolean way(int a, int b, int days) {
        if (!in(a, 0, 15) || !in(b, 0, 15) || a == b || !in(days, 1, 1000)) {
            return false;
        }
        ways[a][b] = days;
        ways[b][a] = days;
        return true;
    }

    public int give(int p, int land, int place) {
        if (!atHand(p) || !in(land, 0, 99) || !in(place, 0, 15) || gifts.size() == 40) {
            return -1;
        }
        pieces.get(p).place = 11;
        keepDay();
        gifts.add(new TreeMap<>());
        gifts.get(gifts.size() - 1).put(today, new ArrayList<>(List.of(place)));
        return gifts.size() - 1;
    }

    public boolean sight(int g, int place, int day) {
        if (!in(g, 0, gifts.size() - 1) || !in(place, 0, 15) || !in(day, gifts.get(g).firstKey(), today) || sights == 100) {
            return false;
        }
        sights++;
        List<Integer> told = gifts.get(g).computeIfAbsent(day, key -> new ArrayList<>());
        if (!told.contains(place)) {
            told.add(place);
        }
        return true;
    }

    public int where(int g, int day) {
        if (!in(g, 0, gifts.size() - 1) || !in(day, gifts.get(g).firstKey(), today)) {
            return -1;
        }
        Map.Entry<Integer, List<Integer>> before = gifts.get(g).floorEntry(day);
        Map.Entry<Integer, List<Integer>> behind = gifts.get(g).higherEntry(day);
        if (before.getValue().size() > 1) {
            return 0;
        }
        if (before.getKey() == day) {
            return 1 << before.getValue().get(0);
        }
        if (behind != null && behind.getValue().size() > 1) {
            return 0;
        }
        long[][] far = distances();
        int bits = 0;
        for (int place = 0; place < 16; place++) {
            boolean can = far[before.getValue().get(0)][place] <= day - before.getKey();
            can &= behind == null || far[place][behind.getValue().get(0)] <= behind.getKey() - day;
            bits |= can ? 1 << place : 0;
        }
        return bits;
    }

    private long[][] distances() {
        long[][] far = new long[16][16];
        for (int a = 0; a < 16; a++) {
            for (int b = 0; b < 16; b++) {
                far[a][b] = a == b ? 0 : ways[a][b] == 0 ? Integer.MAX_VALUE : ways[a][b];
            }
        }
        for (int over = 0; over < 16; over++) {
            for (int a = 0; a < 16; a++) {
                for (int b = 0; b < 16; b++) {
                    far[a][b] = Math.min(far[a][b], far[a][over] + far[over][b]);
                }
            }
        }
        return far;
    }

    public int ask(int weight, int worth, int question) {
        if (!in(weight, 1, 1000000000) || !in(worth, 1, 1000) || !in(question, 0, 65535) || asks.size() == 6) {
            return -1;
        }
        asks.add(new int[] {weight, worth, question});
        return asks.size() - 1;
    }

    public int clear() {
        int were = asks.size();
        asks.clear();
        return were;
    }

    public boolean loss(int n) {
        if (!in(n, 0, 1000000)) {
            return false;
        }
        loss = n;
        return true;
    }

    private List<Piece> stock(int kind) {
        List<Piece> stock = new ArrayList<>();
        for (Piece piece : pieces) {
            if (piece.kind == kind && piece.atHand() && stock.size() < 4) {
                stock.add(piece);
            }
        }
        return stock;
    }

    /** WORTH and LOSSES of a ROW; null if it is not RIGHT. */
    private long[] weighRow(List<Piece> stock, int[] row) {
        long worth = 0;
        long losses = 0;
        for (int place = 0; place < 4; place++) {
            long cuts = 0;
            long together = 0;
            for (int i = 0; i < row.length; i++) {
                if (row[i] == place) {
                    if (place >= stock.size() || (stock.get(place).met & asks.get(i)[2]) != 0) {
                        return null;
                    }
                    cuts++;
                    together += asks.get(i)[0];
                    worth += asks.get(i)[1];
                }
            }
            if (cuts > 0 && together + (cuts - 1) * loss == stock.get(place).weight) {
                cuts--;
            }
            if (cuts > 0 && together + cuts * loss > stock.get(place).weight) {
                return null;
            }
            losses += cuts * loss;
        }
        return new long[] {worth, losses};
    }

    public long best(int kind, int what) {
        if (!in(kind, 0, 7) || what != -1 && what != 10 && !in(what, 0, asks.size() - 1)) {
            return -1;
        }
        List<Piece> stock = stock(kind);
        int[] row = new int[asks.size()];
        int[] bestRow = row.clone();
        long[] best = null;
        boolean more = true;
        while (more) {
            long[] one = weighRow(stock, row);
            if (one != null && (best == null || one[0] > best[0] || one[0] == best[0] && one[1] < best[1])) {
                best = one;
                bestRow = row.clone();
            }
            int last = row.length - 1;
            while (last >= 0 && row[last] == 4) {
                row[last] = 0;
                last--;
            }
            more = last >= 0;
            if (more) {
                row[last]++;
            }
        }
        return what == -1 ? best[0] : what == 10 ? best[1] : bestRow[what];
    }

    public int judge(int kind, int row) {
        if (!in(kind, 0, 7) || !in(row, 0, Math.round(Math.pow(5, asks.size())) - 1)) {
            return -1;
        }
        int[] places = new int[asks.size()];
        for (int i = 0, rest = row; i < places.length; i++, rest /= 5) {
            places[i] = rest % 5;
        }
        long[] one = weighRow(stock(kind), places);
        return one == null ? -2 : (int) one[0];
    }

    public int next(int kind, int question, int weight) {
        if (!in(kind, 0, 7) || !in(question, 0, 65535) || !in(weight, 1, 1000000000)) {
            return -1;
        }
        List<long[]> fit = new ArrayList<>();
        for (int p = 0; p < pieces.size(); p++) {
            Piece piece = pieces.get(p);
            if (piece.kind == kind && piece.atHand() && (piece.met & question) == 0 && piece.weight >= weight) {
                fit.add(new long[] {Integer.bitCount(piece.met) * 2000000000L + piece.weight, p});
            }
        }
        fit.sort((a, b) -> a[0] != b[0] ? Long.compare(a[0], b[0]) : Long.compare(a[1], b[1]));
        return fit.isEmpty() ? -1 : (int) fit.get(0)[1];
    }

    public int check(int n) {
        if (n < 0 || tape.size() < 12L * n) {
            return -2;
        }
        int[] told = take(3 * n);
        List<Integer> right = new ArrayList<>();
        for (int p = 0; p < pieces.size(); p++) {
            if (pieces.get(p).lies()) {
                Collections.addAll(right, p, pieces.get(p).place, pieces.get(p).weight);
            }
        }
        for (int i = 0; i < told.length; i++) {
            if (i >= right.size() || right.get(i) != told[i]) {
                return i;
            }
        }
        return told.length < right.size() ? told.length : -1;
    }

    public long sum(int kind, int what) {
        if (!in(kind, -1, 7) || !in(what, 0, 7)) {
            return -1;
        }
        long sum = 0;
        long[][] gone = {came, null, null, null, lost, eaten, missing, null};
        if (gone[what] != null) {
            for (int k = 0; k < 8; k++) {
                sum += kind == -1 || kind == k ? gone[what][k] : 0;
            }
            return sum;
        }
        for (Piece piece : pieces) {
            boolean counts = what == 1 && piece.lies() || what == 2 && piece.place == 10 || what == 3 && piece.place == 11
                    || what == 7 && piece.lies() && piece.met == 0;
            sum += counts && (kind == -1 || kind == piece.kind) ? piece.weight : 0;
        }
        return sum;
    }

    public int count(int what) {
        if (in(what, 20, 19 + rules.size())) {
            return rules.get(what - 20).clauses.size();
        }
        if (in(what, 40, 49)) {
            return gas[what - 40];
        }
        int[] counts = {today, pieces.size(), askers.size(), rules.size(), loans.size(), weighed.size(), gifts.size(), sights,
            asks.size(), tape.size()};
        return in(what, 0, 9) ? counts[what] : -1;
    }
}
