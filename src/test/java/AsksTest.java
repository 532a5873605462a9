/** Promises 25 to 30: asks, losses, the best row, judged rows, the next piece. */
public final class AsksTest {
    public static void main(String[] args) {
        asks();
        losses();
        bests();
        ties();
        stocks();
        judged();
        nexts();
        Expect.end();
    }

    private static void asks() {
        StoneVault x = new StoneVault();
        Expect.due(25, "weight 0", x.ask(0, 1, 0), -1);
        Expect.due(25, "weight too high", x.ask(1000000001, 1, 0), -1);
        Expect.due(25, "worth 0", x.ask(1, 0, 0), -1);
        Expect.due(25, "worth 1001", x.ask(1, 1001, 0), -1);
        Expect.due(25, "question 17 bits", x.ask(1, 1, 65536), -1);
        Expect.due(25, "question below 0", x.ask(1, 1, -1), -1);
        Expect.due(26, "none", x.clear(), 0);
        for (int i = 0; i < 6; i++) {
            Expect.due(25, "number", x.ask(1000000000, 1000, 65535), i);
        }
        Expect.due(25, "full", x.ask(1, 1, 1), -1);
        Expect.due(25, "count", x.count(8), 6);
        Expect.due(26, "six", x.clear(), 6);
        Expect.due(26, "away", x.count(8), 0);
        Expect.due(26, "from 0 again", x.ask(1, 1, 1), 0);
    }

    private static void losses() {
        StoneVault x = new StoneVault();
        x.stone(0, 0, 1100, 0, false);
        x.ask(100, 1, 0);
        Expect.due(27, "1000 at first", x.best(0, 10), 1000);
        Expect.due(27, "below 0", x.loss(-1), false);
        Expect.due(27, "too high", x.loss(1000001), false);
        Expect.due(27, "unchanged", x.best(0, 10), 1000);
        Expect.due(27, "none", x.loss(0), true);
        Expect.due(27, "none", x.best(0, 10), 0);
        Expect.due(27, "the highest", x.loss(1000000), true);
        Expect.due(27, "too much for it", x.best(0, -1), 0);
        x.stone(1, 0, 1000100, 0, false);
        Expect.due(27, "just enough", x.best(1, 10), 1000000);
    }

    private static void bests() {
        StoneVault x = new StoneVault();
        Expect.due(28, "without asks", x.best(7, -1), 0);
        Expect.due(28, "without asks", x.best(7, 10), 0);
        Expect.due(28, "no ask", x.best(0, 0), -1);
        Expect.due(28, "no kind", x.best(8, -1), -1);
        Expect.due(28, "no kind", x.best(-1, -1), -1);
        x.loss(10);
        x.stone(0, 0, 100, 0, false);
        x.stone(0, 0, 201, 0, false);
        x.ask(100, 5, 0);
        x.ask(90, 5, 0);
        x.ask(90, 6, 1);
        Expect.due(28, "worth", x.best(0, -1), 16);
        Expect.due(28, "losses", x.best(0, 10), 20);
        Expect.due(28, "place", x.best(0, 0), 0);
        Expect.due(28, "place", x.best(0, 1), 1);
        Expect.due(28, "place", x.best(0, 2), 1);
        Expect.due(28, "no fourth ask", x.best(0, 3), -1);
        Expect.due(28, "what 9", x.best(0, 9), -1);
        Expect.due(28, "what 11", x.best(0, 11), -1);
        Expect.due(28, "what -2", x.best(0, -2), -1);
        x.trial(1, 0, 1);
        Expect.due(28, "a question met", x.best(0, -1), 11);
        Expect.due(28, "not served by it", x.best(0, 0), 1);
        Expect.due(28, "not served by it", x.best(0, 1), 4);
        Expect.due(28, "not served by it", x.best(0, 2), 0);
        Expect.due(28, "losses", x.best(0, 10), 20);
    }

    private static void ties() {
        StoneVault x = new StoneVault();
        x.loss(10);
        x.stone(0, 0, 100, 0, false);
        x.stone(0, 0, 90, 0, false);
        x.ask(90, 5, 0);
        Expect.due(28, "fewest losses: no cut is needed", x.best(0, 0), 1);
        Expect.due(28, "fewest losses: no cut is needed", x.best(0, 10), 0);
        x.clear();
        x.ask(20, 5, 0);
        x.ask(20, 5, 0);
        Expect.due(28, "the least row", x.best(0, 0), 0);
        Expect.due(28, "the least row", x.best(0, 1), 0);
        StoneVault y = new StoneVault();
        y.loss(10);
        y.stone(0, 0, 100, 0, false);
        y.stone(0, 0, 100, 0, false);
        y.ask(100, 5, 0);
        y.ask(100, 5, 0);
        y.ask(100, 5, 0);
        Expect.due(28, "least from the first ask on", y.best(0, 0), 0);
        Expect.due(28, "least from the first ask on", y.best(0, 1), 1);
        Expect.due(28, "least from the first ask on", y.best(0, 2), 4);
        StoneVault z = new StoneVault();
        z.loss(10);
        z.stone(0, 0, 210, 0, false);
        z.stone(0, 0, 220, 0, false);
        z.ask(100, 5, 0);
        z.ask(100, 5, 0);
        Expect.due(28, "both of one with one cut", z.best(0, 10), 10);
        Expect.due(28, "both of one with one cut", z.best(0, 1), 0);
    }

    private static void stocks() {
        StoneVault x = new StoneVault();
        x.loss(0);
        x.stone(0, 0, 10, 0, true);
        x.stone(1, 0, 99, 0, false);
        x.stone(0, 0, 11, 0, false);
        x.stone(0, 0, 12, 0, false);
        x.stone(0, 0, 13, 0, false);
        x.stone(0, 0, 14, 0, false);
        x.stone(0, 0, 99, 0, false);
        x.ask(14, 1, 0);
        Expect.due(28, "the fourth at hand", x.best(0, 0), 3);
        x.clear();
        x.ask(15, 1, 0);
        Expect.due(28, "not the fifth", x.best(0, -1), 0);
        x.open(0);
        x.clear();
        x.ask(13, 1, 0);
        Expect.due(28, "the opened one is the first", x.best(0, 0), 3);
        x.give(2, 0, 0);
        Expect.due(28, "a given one is none", x.best(0, 0), 2);
        x.asker(0, 0);
        x.lend(0, 0);
        Expect.due(28, "a lent one is none", x.best(0, 0), 1);
    }

    private static void judged() {
        StoneVault x = new StoneVault();
        Expect.due(29, "without asks", x.judge(0, 0), 0);
        Expect.due(29, "without asks", x.judge(0, 1), -1);
        Expect.due(29, "no kind", x.judge(8, 0), -1);
        Expect.due(29, "no kind", x.judge(-1, 0), -1);
        x.loss(10);
        x.stone(0, 0, 110, 0, false);
        x.stone(0, 0, 119, 0, false);
        x.stone(0, 0, 120, 0, false);
        x.ask(50, 3, 0);
        x.ask(50, 4, 2);
        Expect.due(29, "just used up", x.judge(0, 0), 7);
        Expect.due(29, "a cut too many", x.judge(0, 6), -2);
        Expect.due(29, "both cuts", x.judge(0, 12), 7);
        Expect.due(29, "none in the stock", x.judge(0, 3), -2);
        Expect.due(29, "the first ask is the lowest digit", x.judge(0, 4), 4);
        Expect.due(29, "the second ask is the next digit", x.judge(0, 20), 3);
        Expect.due(29, "none served", x.judge(0, 24), 0);
        Expect.due(29, "no row", x.judge(0, 25), -1);
        Expect.due(29, "no row", x.judge(0, -1), -1);
        Expect.due(29, "no kind, before a row that is not right", x.judge(8, 3), -1);
        x.trial(0, 0, 2);
        Expect.due(29, "question met", x.judge(0, 4), -2);
        Expect.due(29, "question met by none", x.judge(0, 20), 3);
        for (int i = 2; i < 6; i++) {
            x.ask(1, 1, 0);
        }
        Expect.due(29, "six asks", x.judge(0, 15624), 0);
        Expect.due(29, "six asks", x.judge(0, 15625), -1);
    }

    private static void nexts() {
        StoneVault x = new StoneVault();
        x.stone(0, 0, 100, 0, false);
        x.stone(0, 0, 90, 0, false);
        x.stone(0, 0, 90, 0, false);
        x.stone(0, 0, 80, 0, true);
        x.stone(1, 0, 80, 0, false);
        Expect.due(30, "no kind", x.next(8, 0, 1), -1);
        Expect.due(30, "no kind", x.next(-1, 0, 1), -1);
        Expect.due(30, "question", x.next(0, 65536, 1), -1);
        Expect.due(30, "question", x.next(0, -1, 1), -1);
        Expect.due(30, "weight 0", x.next(0, 0, 0), -1);
        Expect.due(30, "weight too high", x.next(0, 0, 1000000001), -1);
        Expect.due(30, "least weight, lowest", x.next(0, 0, 1), 1);
        Expect.due(30, "not less", x.next(0, 0, 90), 1);
        Expect.due(30, "not less", x.next(0, 0, 91), 0);
        Expect.due(30, "none", x.next(0, 0, 101), -1);
        x.trial(1, 0, 4);
        x.trial(2, 0, 8);
        Expect.due(30, "fewest bits", x.next(0, 0, 1), 0);
        x.trial(0, 0, 3);
        Expect.due(30, "fewest bits", x.next(0, 0, 1), 1);
        Expect.due(30, "of the question", x.next(0, 4, 1), 2);
        Expect.due(30, "of the question", x.next(0, 12, 1), 0);
        Expect.due(30, "of the question", x.next(0, 13, 1), -1);
        x.stone(2, 0, 1000000000, 0, false);
        Expect.due(30, "the greatest weight", x.next(2, 65535, 1000000000), 5);
        x.open(3);
        Expect.due(30, "opened", x.next(0, 0, 1), 3);
        x.give(3, 0, 0);
        Expect.due(30, "given", x.next(0, 0, 1), 1);
    }
}
