import java.util.ArrayList;
import java.util.Arrays;
import java.util.List;

/** Each call that is refused, on a vault with something of all: its answer, and that all else stays as it was. */
public final class RefusalsTest {
    private interface Call {
        long on(StoneVault x);
    }

    private static final class Refusal {
        final int promise;
        final String what;
        final long due;
        final Call call;

        Refusal(int promise, String what, long due, Call call) {
            this.promise = promise;
            this.what = what;
            this.due = due;
            this.call = call;
        }
    }

    private static final int FREE = 0;
    private static final int SEALED = 1;
    private static final int OUT = 2;
    private static final int GONE = 3;
    private static final int EATEN = 4;
    private static final int MET = 5;
    private static final int TODAY = 20;

    private static final List<Refusal> REFUSALS = new ArrayList<>();

    public static void main(String[] args) {
        pieces();
        lending();
        scales();
        travels();
        asks();
        List<Long> before = state(filled());
        for (Refusal refusal : REFUSALS) {
            StoneVault x = filled();
            Expect.due(refusal.promise, refusal.what, refusal.call.on(x), refusal.due);
            Expect.due(refusal.promise, refusal.what + ": all else stays", state(x).equals(before), true);
        }
        emptied();
        Expect.end();
    }

    private static long bit(boolean answer) {
        return answer ? 1 : 0;
    }

    private static void refuse(int promise, String what, Call call) {
        REFUSALS.add(new Refusal(promise, what, -1, call));
    }

    private static void deny(int promise, String what, Call call) {
        REFUSALS.add(new Refusal(promise, what, 0, call));
    }

    /** 20 bytes stand on its tape; LOAN 0 is out, LOAN 1 is BACK, GIFT 0 is on its way. */
    private static StoneVault filled() {
        StoneVault x = new StoneVault();
        x.now(3);
        x.gas(1, 6);
        x.asker(4, 5);
        x.asker(9, 7);
        x.stone(0, 1, 1000, 0, false);
        x.stone(0, 2, 2000, 1, true);
        x.stone(0, 3, 3000, 2, false);
        x.stone(1, 4, 4000, 3, false);
        x.stone(1, 5, 5000, 4, false);
        x.stone(1, 6, 6000, 1, false);
        x.move(MET, 1);
        Expect.rules(x, "b(w=1);t400(k=0);d9(f=5)");
        Expect.rules(x, 4, 99999, "x0.2;d7(h=9)");
        x.lend(OUT, 0);
        x.give(GONE, 8, 2);
        x.trial(EATEN, 5000, 8);
        x.now(TODAY - 5);
        x.lend(MET, 1);
        x.back(1, 5990, 4, 32, 1);
        x.weigh(FREE, 2, 1010, 7);
        x.way(2, 3, 4);
        x.now(TODAY);
        x.sight(0, 3, TODAY - 2);
        Expect.numbers(x, FREE, MET, 1001, 3, 8, 5991, 2, 1);
        x.found(2);
        x.ask(900, 5, 1);
        x.ask(1990, 7, 0);
        x.loss(10);
        x.feed(600, 500, 1, 1, 1);
        return x;
    }

    /** All that is told of it, by far less than 512 calls. */
    private static List<Long> state(StoneVault x) {
        List<Long> all = new ArrayList<>();
        for (int p = 0; p <= 6; p++) {
            for (int what = 0; what <= 7; what++) {
                all.add((long) x.piece(p, what));
            }
            for (int what = 2; what <= 4; what++) {
                all.add((long) x.was(p, 3, what));
                all.add((long) x.was(p, TODAY, what));
            }
        }
        for (int what = 0; what <= 6; what++) {
            all.add((long) x.loan(0, what));
            all.add((long) x.loan(1, what));
            all.add((long) x.loan(2, what));
        }
        for (int kind = 0; kind <= 1; kind++) {
            for (int what = 0; what <= 7; what++) {
                all.add(x.sum(kind, what));
            }
        }
        for (int what = 0; what <= 10; what++) {
            all.add((long) x.count(what));
            all.add((long) x.count(40 + what));
        }
        rest(x, all);
        return all;
    }

    private static void rest(StoneVault x, List<Long> all) {
        for (int rules = 20; rules <= 22; rules++) {
            all.add((long) x.count(rules));
        }
        for (int what = 0; what <= 2; what++) {
            all.add((long) x.drifts(2, TODAY, what));
            all.add((long) x.drifts(0, TODAY, what));
            all.add((long) x.thing(0, what));
            all.add((long) x.thing(1, what));
            all.add((long) x.thing(2, what));
        }
        for (int day = 3; day <= TODAY; day += 5) {
            all.add((long) x.where(0, day));
        }
        for (int what = -1; what <= 2; what++) {
            all.add(x.best(0, what));
            all.add(x.best(1, what));
        }
        all.add(x.best(0, 10));
        all.add((long) x.judge(0, 4));
        all.add((long) x.next(0, 0, 1));
        all.add((long) x.cut(FREE, 3, 2));
        all.add((long) x.lend(MET, 1));
        all.add((long) x.loan(2, 3));
    }

    private static void pieces() {
        for (int day : new int[] {TODAY - 1, 0, -1, 100000, -2147483648, 2147483647}) {
            deny(2, "now " + day, x -> bit(x.now(day)));
        }
        for (int[] gas : new int[][] {{10, 1}, {-1, 1}, {0, -1}, {0, 65536}}) {
            deny(3, "gas " + Arrays.toString(gas), x -> bit(x.gas(gas[0], gas[1])));
        }
        for (int[] s : new int[][] {{8, 0, 1, 0}, {-1, 0, 1, 0}, {0, 10, 1, 0}, {0, -1, 1, 0}, {0, 0, 0, 0}, {0, 0, -1, 0},
            {0, 0, 1000000001, 0}, {0, 0, 1, 10}, {0, 0, 1, -1}}) {
            refuse(4, "stone " + Arrays.toString(s), x -> x.stone(s[0], s[1], s[2], s[3], false));
            refuse(4, "sealed stone " + Arrays.toString(s), x -> x.stone(s[0], s[1], s[2], s[3], true));
        }
        for (int[] move : new int[][] {{FREE, 10}, {FREE, -1}, {SEALED, 10}, {6, 1}, {-1, 1}, {OUT, 1}, {GONE, 1}, {EATEN, 1}}) {
            deny(5, "move " + Arrays.toString(move), x -> bit(x.move(move[0], move[1])));
        }
        for (int p : new int[] {FREE, OUT, GONE, EATEN, MET, 6, -1}) {
            deny(6, "open " + p, x -> bit(x.open(p)));
        }
        for (int[] cut : new int[][] {{SEALED, 0, 2}, {OUT, 0, 2}, {GONE, 0, 2}, {EATEN, 0, 2}, {6, 0, 2}, {-1, 0, 2},
            {FREE, 16, 2}, {FREE, -1, 2}, {FREE, 0, 1}, {FREE, 0, 0}, {FREE, 0, -1}, {FREE, 0, 7}, {FREE, 0, 6}}) {
            refuse(8, "cut " + Arrays.toString(cut), x -> x.cut(cut[0], cut[1], cut[2]));
        }
        for (int[] trial : new int[][] {{SEALED, 1, 1}, {OUT, 1, 1}, {GONE, 1, 1}, {EATEN, 0, 1}, {6, 1, 1}, {-1, 1, 1},
            {FREE, -1, 1}, {FREE, 1001, 1}, {FREE, 1, -1}, {FREE, 1, 65536}}) {
            refuse(9, "trial " + Arrays.toString(trial), x -> x.trial(trial[0], trial[1], trial[2]));
        }
        for (int[] of : new int[][] {{6, 0}, {-1, 0}, {0, 8}, {0, -1}}) {
            refuse(15, "piece " + Arrays.toString(of), x -> x.piece(of[0], of[1]));
        }
        for (int[] of : new int[][] {{6, 3, 2}, {-1, 3, 2}, {0, 2, 2}, {0, -1, 2}, {0, TODAY + 1, 2}, {0, 3, 1}, {0, 3, 5}}) {
            refuse(16, "was " + Arrays.toString(of), x -> x.was(of[0], of[1], of[2]));
        }
        for (int[] of : new int[][] {{8, 0}, {-2, 0}, {0, 8}, {0, -1}}) {
            refuse(32, "sum " + Arrays.toString(of), x -> x.sum(of[0], of[1]));
        }
        for (int what : new int[] {-1, 10, 19, 22, 39, 50}) {
            refuse(33, "count " + what, x -> x.count(what));
        }
        REFUSALS.add(new Refusal(31, "check of more than there is", -2, x -> x.check(2)));
        REFUSALS.add(new Refusal(31, "check of less than nothing", -2, x -> x.check(-1)));
    }

    private static void lending() {
        for (int[] asker : new int[][] {{10, 0}, {-1, 0}, {0, 8}, {0, -1}}) {
            refuse(10, "asker " + Arrays.toString(asker), x -> x.asker(asker[0], asker[1]));
        }
        for (int[] rules : new int[][] {{-1, 5, 4}, {100000, 100000, 4}, {0, 100000, 4}, {0, -1, 4}, {5, 4, 4}, {0, 9, 0},
            {0, 9, -1}, {0, 9, 21}, {0, 9, 160}, {0, 9, 161}, {0, 9, 2147483647}}) {
            refuse(11, "rules " + Arrays.toString(rules), x -> x.rules(rules[0], rules[1], rules[2]));
        }
        for (int[] lend : new int[][] {{SEALED, 0}, {OUT, 0}, {GONE, 0}, {EATEN, 0}, {6, 0}, {-1, 0}, {FREE, 2}, {FREE, -1}}) {
            refuse(12, "lend " + Arrays.toString(lend), x -> x.lend(lend[0], lend[1]));
        }
        REFUSALS.add(new Refusal(12, "too little would be kept", -3, x -> x.lend(FREE, 0)));
        for (int[] b : new int[][] {{1, 1, 0, 0, 0}, {2, 1, 0, 0, 0}, {-1, 1, 0, 0, 0}, {0, 3001, 0, 0, 0}, {0, -1, 0, 0, 0},
            {0, 2990, 11, 0, 0}, {0, 3000, 1, 0, 0}, {0, 2990, -1, 0, 0}, {0, 2990, 0, -1, 0}, {0, 2990, 0, 65536, 0},
            {0, 2990, 0, 0, 10}, {0, 2990, 0, 0, -1}, {0, 0, 0, 0, 10}, {0, 1, 2147483647, 0, 0}, {0, 0, -2147483648, 0, 0}}) {
            refuse(13, "back " + Arrays.toString(b), x -> x.back(b[0], b[1], b[2], b[3], b[4]));
        }
        for (int[] of : new int[][] {{2, 0}, {-1, 0}, {0, 7}, {0, -1}}) {
            refuse(14, "loan " + Arrays.toString(of), x -> x.loan(of[0], of[1]));
        }
    }

    private static void scales() {
        for (int[] w : new int[][] {{OUT, 0, 3000, 0}, {GONE, 0, 4000, 0}, {EATEN, 0, 0, 0}, {6, 0, 1, 0}, {-1, 0, 1, 0},
            {FREE, 4, 1000, 0}, {FREE, -1, 1000, 0}, {FREE, 0, -1, 0}, {FREE, 0, 1000001001, 0}, {FREE, 0, 1000, -1},
            {FREE, 0, 1000, 1001}}) {
            deny(17, "weigh " + Arrays.toString(w), x -> bit(x.weigh(w[0], w[1], w[2], w[3])));
        }
        for (int[] of : new int[][] {{4, 0, 0}, {-1, 0, 0}, {0, -1, 0}, {0, 100000, 0}, {0, 0, 3}, {0, 0, -1}}) {
            REFUSALS.add(new Refusal(18, "drifts " + Arrays.toString(of), -2000, x -> x.drifts(of[0], of[1], of[2])));
        }
        for (int n : new int[] {-2147483648, -1, 0, 2, 6, 7, 2147483647}) {
            refuse(19, "found " + n, x -> x.found(n));
        }
        for (int[] of : new int[][] {{-1, 1}, {2, 1}, {0, -1}, {0, 3}, {0, 2147483647}}) {
            refuse(20, "thing " + Arrays.toString(of), x -> x.thing(of[0], of[1]));
        }
    }

    private static void travels() {
        for (int[] way : new int[][] {{16, 0, 1}, {-1, 0, 1}, {0, 16, 1}, {0, -1, 1}, {2, 2, 1}, {2, 3, 0}, {2, 3, -1},
            {2, 3, 1001}}) {
            deny(21, "way " + Arrays.toString(way), x -> bit(x.way(way[0], way[1], way[2])));
        }
        for (int[] give : new int[][] {{SEALED, 0, 0}, {OUT, 0, 0}, {GONE, 0, 0}, {EATEN, 0, 0}, {6, 0, 0}, {-1, 0, 0},
            {FREE, 100, 0}, {FREE, -1, 0}, {FREE, 0, 16}, {FREE, 0, -1}}) {
            refuse(22, "give " + Arrays.toString(give), x -> x.give(give[0], give[1], give[2]));
        }
        for (int[] sight : new int[][] {{1, 0, 9}, {-1, 0, 9}, {0, 16, 9}, {0, -1, 9}, {0, 0, 2}, {0, 0, -1},
            {0, 0, TODAY + 1}}) {
            deny(23, "sight " + Arrays.toString(sight), x -> bit(x.sight(sight[0], sight[1], sight[2])));
        }
        for (int[] of : new int[][] {{1, 9}, {-1, 9}, {0, 2}, {0, -1}, {0, TODAY + 1}}) {
            refuse(24, "where " + Arrays.toString(of), x -> x.where(of[0], of[1]));
        }
    }

    private static void asks() {
        for (int[] ask : new int[][] {{0, 1, 0}, {-1, 1, 0}, {1000000001, 1, 0}, {1, 0, 0}, {1, -1, 0}, {1, 1001, 0},
            {1, 1, -1}, {1, 1, 65536}}) {
            refuse(25, "ask " + Arrays.toString(ask), x -> x.ask(ask[0], ask[1], ask[2]));
        }
        for (int n : new int[] {-1, 1000001, -2147483648, 2147483647}) {
            deny(27, "loss " + n, x -> bit(x.loss(n)));
        }
        for (int[] of : new int[][] {{8, -1}, {-1, -1}, {0, 2}, {0, 9}, {0, 11}, {0, -2}}) {
            refuse(28, "best " + Arrays.toString(of), x -> x.best(of[0], of[1]));
        }
        for (int[] of : new int[][] {{8, 0}, {-1, 0}, {0, 25}, {0, -1}, {0, 2147483647}}) {
            refuse(29, "judge " + Arrays.toString(of), x -> x.judge(of[0], of[1]));
        }
        REFUSALS.add(new Refusal(29, "a row that is not right", -2, x -> x.judge(0, 3)));
        for (int[] of : new int[][] {{8, 0, 1}, {-1, 0, 1}, {0, -1, 1}, {0, 65536, 1}, {0, 0, 0}, {0, 0, -1},
            {0, 0, 1000000001}, {0, 0, 1001}, {7, 0, 1}}) {
            refuse(30, "next " + Arrays.toString(of), x -> x.next(of[0], of[1], of[2]));
        }
    }

    /** What is answered by other numbers than NONE takes the tape, and changes nothing else. */
    private static void emptied() {
        int[] parts = {2147483647, 2147483647, 2147483647, 2147483647, 4};
        Call[] calls = {x -> x.cut(FREE, 0, 2), x -> x.rules(0, 9, 4), x -> x.found(1), x -> x.check(1)};
        long[] due = {-2, -1000, -2, 0};
        int[] promises = {8, 11, 19, 31};
        for (int i = 0; i < calls.length; i++) {
            StoneVault x = filled();
            x.check(0);
            Expect.numbers(x, parts);
            Expect.due(promises[i], "wrong numbers", calls[i].on(x), due[i]);
            Expect.due(promises[i], "the tape is empty", x.count(9), 0);
            x.feed(600, 500, 1, 1, 1);
            Expect.due(promises[i], "all else stays", state(x).equals(state(filled())), true);
        }
    }
}
