import java.util.ArrayList;
import java.util.List;
import java.util.Random;

/** Random states, each answer compared with the plainest way to find it (all rows, all orders, day by day). */
public final class PlainModelsTest {
    private static final Random RANDOM = new Random(20261118);

    public static void main(String[] args) {
        for (int i = 0; i < 150; i++) {
            bestOfAllRows();
            foundInAllOrders();
            whereDayByDay();
            driftsOneByOne();
            wasBySnapshots();
        }
        Expect.end();
    }

    private static int upTo(int n) {
        return RANDOM.nextInt(n + 1);
    }

    private static void bestOfAllRows() {
        StoneVault x = new StoneVault();
        int loss = upTo(5);
        x.loss(loss);
        int pieces = upTo(5);
        for (int p = 0; p < pieces; p++) {
            x.stone(0, 0, 1 + upTo(25), 0, upTo(5) == 0);
            x.trial(p, 0, upTo(3) == 0 ? 1 << upTo(1) : 0);
        }
        int n = upTo(4) + upTo(2);
        int[][] asks = new int[n][3];
        for (int i = 0; i < n; i++) {
            asks[i] = new int[] {1 + upTo(10), 1 + upTo(2), upTo(3) == 0 ? 1 + upTo(2) : 0};
            x.ask(asks[i][0], asks[i][1], asks[i][2]);
        }
        int[] row = new int[n];
        int[] best = new int[n];
        int bestWorth = -1;
        int bestLosses = 0;
        int rows = (int) Math.pow(5, n);
        for (int k = 0; k < rows; k++) {
            int code = 0;
            int rest = k;
            for (int i = n - 1; i >= 0; i--) {
                row[i] = rest % 5;
                rest /= 5;
                code = 5 * code + row[i];
            }
            int cuts = cutsOfRow(x, asks, row, loss);
            int worth = 0;
            for (int i = 0; i < n; i++) {
                worth += row[i] < 4 ? asks[i][1] : 0;
            }
            Expect.due(29, "row " + code, x.judge(0, code), cuts < 0 ? -2 : worth);
            if (cuts >= 0 && (worth > bestWorth || worth == bestWorth && cuts * loss < bestLosses)) {
                bestWorth = worth;
                bestLosses = cuts * loss;
                best = row.clone();
            }
        }
        Expect.due(28, "worth", x.best(0, -1), bestWorth);
        Expect.due(28, "losses", x.best(0, 10), bestLosses);
        for (int i = 0; i < n; i++) {
            Expect.due(28, "place of ask " + i, x.best(0, i), best[i]);
        }
    }

    private static int cutsOfRow(StoneVault x, int[][] asks, int[] row, int loss) {
        List<Integer> stock = new ArrayList<>();
        for (int p = 0; p < x.count(1) && stock.size() < 4; p++) {
            if (x.piece(p, 4) < 10 && x.piece(p, 7) == 0) {
                stock.add(p);
            }
        }
        int cuts = 0;
        for (int place = 0; place < 4; place++) {
            int served = 0;
            int together = 0;
            for (int i = 0; i < row.length; i++) {
                if (row[i] == place) {
                    if (place >= stock.size() || (x.piece(stock.get(place), 3) & asks[i][2]) != 0) {
                        return -1;
                    }
                    served++;
                    together += asks[i][0];
                }
            }
            if (served > 0) {
                int weight = x.piece(stock.get(place), 2);
                int own = together + (served - 1) * loss == weight ? served - 1 : served;
                if (together + own * loss > weight) {
                    return -1;
                }
                cuts += own;
            }
        }
        return cuts;
    }

    private static void foundInAllOrders() {
        StoneVault x = new StoneVault();
        for (int p = 0; p < 9; p++) {
            x.stone(upTo(2), 0, 100 + upTo(10), 0, false);
        }
        int n = 1 + upTo(5);
        List<Integer> all = new ArrayList<>();
        for (int p = 0; p < 9; p++) {
            all.add(upTo(all.size()), p);
        }
        int[] numbers = new int[4 * n];
        for (int i = 0; i < n; i++) {
            numbers[i] = all.get(i);
            numbers[n + 3 * i] = 100 + upTo(10);
            numbers[n + 3 * i + 1] = upTo(8);
            numbers[n + 3 * i + 2] = upTo(3) == 0 ? upTo(2) : 8;
        }
        boolean[][] may = new boolean[n][9];
        int answers = orders(x, numbers, n, 0, new int[n], may);
        Expect.numbers(x, numbers);
        Expect.due(19, "answers", x.found(n), answers);
        for (int i = 0; i < n; i++) {
            int mays = 0;
            int last = -1;
            for (int p = 0; p < 9; p++) {
                if (may[i][p]) {
                    Expect.due(20, "one that it may be", x.thing(i, 2 + mays), p);
                    mays++;
                    last = p;
                }
            }
            Expect.due(20, "how many", x.thing(i, 1), mays);
            Expect.due(20, "no more", x.thing(i, 2 + mays), -1);
            Expect.due(20, "sure", x.thing(i, 0), mays == 1 ? last : -1);
        }
    }

    private static int orders(StoneVault x, int[] numbers, int n, int i, int[] chosen, boolean[][] may) {
        if (i == n) {
            for (int k = 0; k < n; k++) {
                int p = chosen[k];
                int kind = numbers[n + 3 * k + 2];
                if (Math.abs(x.piece(p, 2) - numbers[n + 3 * k]) > numbers[n + 3 * k + 1]
                        || kind != 8 && kind != x.piece(p, 0)) {
                    return 0;
                }
            }
            for (int k = 0; k < n; k++) {
                may[k][chosen[k]] = true;
            }
            return 1;
        }
        int answers = 0;
        for (int j = 0; j < n; j++) {
            boolean used = false;
            for (int k = 0; k < i; k++) {
                used |= chosen[k] == numbers[j];
            }
            if (!used) {
                chosen[i] = numbers[j];
                answers += orders(x, numbers, n, i + 1, chosen, may);
            }
        }
        return answers;
    }

    private static void whereDayByDay() {
        StoneVault x = new StoneVault();
        x.stone(0, 0, 5, 0, false);
        int given = upTo(10);
        int today = given + upTo(60);
        int[][] ways = new int[16][16];
        for (int i = 0; i < 12; i++) {
            int a = upTo(15);
            int b = upTo(15);
            int days = 1 + upTo(15);
            if (x.way(a, b, days)) {
                ways[a][b] = days;
                ways[b][a] = days;
            }
        }
        int[] seen = new int[today + 1];
        x.now(given);
        int start = upTo(15);
        x.give(0, 0, start);
        seen[given] |= 1 << start;
        x.now(today);
        for (int i = upTo(3); i > 0; i--) {
            int place = upTo(15);
            int day = given + upTo(today - given);
            x.sight(0, place, day);
            seen[day] |= 1 << place;
        }
        for (int day = given; day <= today; day++) {
            Expect.due(24, "day " + day, x.where(0, day), whereOn(ways, seen, day));
        }
    }

    private static int whereOn(int[][] ways, int[] seen, int day) {
        int before = day;
        while (seen[before] == 0) {
            before--;
        }
        int behind = day;
        while (behind < seen.length && seen[behind] == 0) {
            behind++;
        }
        if (Integer.bitCount(seen[before]) > 1) {
            return 0;
        }
        int places = spread(ways, seen[before], day - before);
        if (behind < seen.length) {
            places = Integer.bitCount(seen[behind]) > 1 ? 0 : places & spread(ways, seen[behind], behind - day);
        }
        return places;
    }

    private static int spread(int[][] ways, int start, int days) {
        int[] at = new int[days + 1];
        at[0] = start;
        for (int day = 1; day <= days; day++) {
            at[day] = at[day - 1];
            for (int a = 0; a < 16; a++) {
                for (int b = 0; b < 16; b++) {
                    int length = ways[a][b];
                    if (length > 0 && length <= day && (at[day - length] >> a & 1) != 0) {
                        at[day] |= 1 << b;
                    }
                }
            }
        }
        return at[days];
    }

    private static void driftsOneByOne() {
        StoneVault x = new StoneVault();
        int n = upTo(6);
        int[][] weighed = new int[n][5];
        x.stone(0, 0, 5000, 0, false);
        int drift = upTo(2400) - 1200;
        for (int i = 0; i < n; i++) {
            x.trial(0, upTo(300), 0);
            int weight = x.piece(0, 2);
            int slip = upTo(300);
            int read = Math.max(0, weight + drift + upTo(2 * slip) - slip + (upTo(9) == 0 ? 200 : 0));
            int scale = upTo(1);
            x.weigh(0, scale, read, slip);
            weighed[i] = new int[] {scale, x.count(0), read, slip, weight};
            x.now(x.count(0) + upTo(2));
        }
        for (int scale = 0; scale < 2; scale++) {
            for (int t = 0; t <= x.count(0) + 1; t++) {
                int many = 0;
                int least = -2000;
                int greatest = -2000;
                for (int d = -1000; d <= 1000; d++) {
                    boolean fits = true;
                    for (int[] w : weighed) {
                        fits &= w[0] != scale || w[1] > t || Math.abs(w[2] - d - w[4]) <= w[3];
                    }
                    if (fits) {
                        many++;
                        least = least == -2000 ? d : least;
                        greatest = d;
                    }
                }
                Expect.due(18, "many", x.drifts(scale, t, 0), many);
                Expect.due(18, "least", x.drifts(scale, t, 1), least);
                Expect.due(18, "greatest", x.drifts(scale, t, 2), greatest);
            }
        }
    }

    private static void wasBySnapshots() {
        StoneVault x = new StoneVault();
        x.asker(0, 0);
        for (int c = 0; c < 10; c++) {
            x.gas(c, 1 << c);
        }
        List<int[][]> days = new ArrayList<>();
        for (int calls = 0; calls < 120; calls++) {
            if (upTo(6) == 0) {
                days.add(snapshot(x));
                x.now(x.count(0) + 1);
            }
            change(x);
        }
        days.add(snapshot(x));
        for (int day = 0; day < days.size(); day++) {
            for (int p = 0; p < x.count(1); p++) {
                for (int what = 2; what <= 4; what++) {
                    int[][] then = days.get(day);
                    Expect.due(16, "was", x.was(p, day, what), p < then.length ? then[p][what - 2] : -1);
                }
            }
        }
    }

    private static void change(StoneVault x) {
        int p = upTo(Math.max(1, x.count(1)));
        switch (upTo(7)) {
            case 0: x.stone(upTo(7), 0, 1 + upTo(50), upTo(9), upTo(3) == 0); break;
            case 1: x.move(p, upTo(9)); break;
            case 2: x.open(p); break;
            case 3:
                Expect.numbers(x, 1 + upTo(10), 1 + upTo(10), 1 + upTo(10));
                if (x.cut(p, upTo(15), 2 + upTo(1)) == -1) {
                    x.check(1);
                }
                break;
            case 4: x.trial(p, upTo(9), 1 << upTo(15)); break;
            case 5: x.lend(p, 0); break;
            case 6:
                int i = upTo(Math.max(1, x.count(4)));
                int weight = x.piece(x.loan(i, 0), 2);
                x.back(i, weight - upTo(Math.max(0, Math.min(weight, 5))), 0, upTo(65535), upTo(9));
                break;
            default:
                if (upTo(3) == 0) {
                    x.give(p, 0, 0);
                }
        }
    }

    private static int[][] snapshot(StoneVault x) {
        int[][] all = new int[x.count(1)][3];
        for (int p = 0; p < all.length; p++) {
            for (int what = 2; what <= 4; what++) {
                all[p][what - 2] = x.piece(p, what);
            }
        }
        return all;
    }
}
