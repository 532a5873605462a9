/** Promises 31 to 33: the check of what lies in the cabinets, sums and counts. */
public final class AccountsTest {
    public static void main(String[] args) {
        checks();
        sums();
        counts();
        Expect.end();
    }

    private static void checkOf(StoneVault x, String what, int want, int... numbers) {
        Expect.numbers(x, numbers);
        Expect.due(31, what, x.check(numbers.length / 3), want);
        Expect.due(31, "the tape is empty", x.count(9), 0);
    }

    private static void checks() {
        StoneVault x = new StoneVault();
        checkOf(x, "nothing there", -1);
        checkOf(x, "one too many", 0, 0, 0, 0);
        x.stone(0, 0, 10, 3, false);
        x.stone(0, 0, 20, 4, true);
        x.stone(0, 0, 30, 5, false);
        checkOf(x, "all are lacking", 0);
        checkOf(x, "right", -1, 0, 3, 10, 1, 4, 20, 2, 5, 30);
        checkOf(x, "lacking", 6, 0, 3, 10, 1, 4, 20);
        checkOf(x, "not by numbers", 0, 1, 4, 20, 0, 3, 10, 2, 5, 30);
        checkOf(x, "the cabinet", 4, 0, 3, 10, 1, 5, 20, 2, 5, 30);
        checkOf(x, "the weight", 8, 0, 3, 10, 1, 4, 20, 2, 5, 31);
        checkOf(x, "too many", 9, 0, 3, 10, 1, 4, 20, 2, 5, 30, 3, 0, 0);
        checkOf(x, "twice", 3, 0, 3, 10, 0, 3, 10, 1, 4, 20);
        x.give(0, 0, 0);
        checkOf(x, "given", 0, 0, 3, 10, 1, 4, 20, 2, 5, 30);
        checkOf(x, "right", -1, 1, 4, 20, 2, 5, 30);
        Expect.numbers(x, 1, 4, 20, 2, 5);
        Expect.due(31, "not so many", x.check(2), -2);
        Expect.due(31, "not so many", x.check(1431655766), -2);
        Expect.due(31, "not so many", x.check(2147483647), -2);
        Expect.due(31, "the tape stays", x.count(9), 20);
        Expect.due(31, "more than asked", x.check(1), 3);
    }

    private static void sums() {
        StoneVault x = new StoneVault();
        x.asker(0, 0);
        x.stone(2, 0, 1000, 0, false);
        x.stone(2, 0, 500, 0, true);
        x.stone(2, 0, 70, 1, false);
        x.stone(2, 0, 60, 1, false);
        x.stone(3, 0, 1000000000, 0, false);
        x.stone(3, 0, 1000000000, 0, false);
        x.stone(3, 0, 1000000000, 0, false);
        Expect.numbers(x, 400, 300);
        x.cut(0, 0, 2);
        x.trial(7, 100, 0);
        x.lend(2, 0);
        x.lend(8, 0);
        x.back(1, 250, 20, 0, 0);
        x.give(3, 0, 0);
        long[] want = {1630, 1050, 70, 60, 300, 120, 30, 500};
        for (int what = 0; what <= 7; what++) {
            Expect.due(32, "what " + what, x.sum(2, what), want[what]);
            Expect.due(32, "no such kind here", x.sum(0, what), 0);
            long other = what == 0 || what == 1 || what == 7 ? 3000000000L : 0;
            Expect.due(32, "beyond an int", x.sum(3, what), other);
            Expect.due(32, "all kinds", x.sum(-1, what), want[what] + other);
        }
        lastCabinet();
        Expect.due(32, "what 8", x.sum(2, 8), -1);
        Expect.due(32, "what -1", x.sum(2, -1), -1);
        Expect.due(32, "kind 8", x.sum(8, 0), -1);
        Expect.due(32, "kind -2", x.sum(-2, 0), -1);
        Expect.due(32, "all that came is somewhere", x.sum(2, 0),
                x.sum(2, 1) + x.sum(2, 2) + x.sum(2, 3) + x.sum(2, 4) + x.sum(2, 5) + x.sum(2, 6));
    }

    private static void lastCabinet() {
        StoneVault x = new StoneVault();
        x.asker(0, 0);
        x.stone(4, 0, 10, 9, false);
        Expect.due(32, "in the last cabinet", x.sum(4, 1), 10);
        Expect.due(32, "in the last cabinet, has met nothing", x.sum(4, 7), 10);
        x.stone(4, 0, 20, 9, false);
        x.stone(4, 0, 40, 9, false);
        x.trial(1, 0, 1);
        x.trial(2, 0, 1);
        Expect.due(32, "has met something", x.sum(4, 7), 10);
        x.lend(1, 0);
        x.give(2, 0, 0);
        Expect.due(32, "lent, has met something", x.sum(4, 2), 20);
        Expect.due(32, "given, has met something", x.sum(4, 3), 40);
    }

    private static void counts() {
        StoneVault x = new StoneVault();
        x.now(4);
        x.stone(0, 0, 10, 0, false);
        x.stone(0, 0, 10, 0, false);
        x.asker(0, 0);
        x.asker(0, 0);
        x.asker(0, 0);
        for (int i = 0; i < 4; i++) {
            Expect.rules(x, "d1(f=0);d2(f=0)");
        }
        for (int i = 0; i < 5; i++) {
            x.lend(0, 0);
            x.back(i, 10, 0, 0, 0);
        }
        for (int i = 0; i < 6; i++) {
            x.weigh(0, 0, 10, 0);
        }
        x.give(0, 0, 0);
        for (int i = 0; i < 7; i++) {
            x.sight(0, 0, 4);
        }
        x.ask(1, 1, 0);
        x.ask(1, 1, 0);
        x.ask(1, 1, 0);
        x.feed(0, 0, 0, 0, 0);
        int[] want = {4, 2, 3, 4, 5, 6, 1, 7, 3, 20};
        for (int what = 0; what < 10; what++) {
            Expect.due(33, "what " + what, x.count(what), want[what]);
        }
        x.gas(0, 5);
        x.gas(9, 6);
        Expect.due(33, "clauses", x.count(20), 2);
        Expect.due(33, "clauses", x.count(23), 2);
        Expect.due(33, "no such rules", x.count(24), -1);
        Expect.due(33, "no such rules", x.count(39), -1);
        Expect.due(33, "gas", x.count(40), 5);
        Expect.due(33, "gas", x.count(49), 6);
        int[] none = {-1, 10, 19, 50, 2147483647, -2147483648};
        for (int what : none) {
            Expect.due(33, "what " + what, x.count(what), -1);
        }
    }
}
