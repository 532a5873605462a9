/** Promises 17 to 20: scales, drifts, found stones. */
public final class ScalesTest {
    public static void main(String[] args) {
        weighs();
        drifts();
        foundOrder();
        foundSeven();
        foundAnswers();
        Expect.end();
    }

    private static void weighs() {
        StoneVault x = new StoneVault();
        x.stone(0, 0, 100, 0, true);
        x.stone(0, 0, 100, 0, false);
        x.give(1, 0, 0);
        Expect.due(17, "read below 0 as bits", x.weigh(0, 0, -2147483648, 0), false);
        Expect.due(17, "no piece", x.weigh(2, 0, 100, 0), false);
        Expect.due(17, "no piece", x.weigh(-1, 0, 100, 0), false);
        Expect.due(17, "no scale", x.weigh(0, 4, 100, 0), false);
        Expect.due(17, "no scale", x.weigh(0, -1, 100, 0), false);
        Expect.due(17, "read below 0", x.weigh(0, 0, -1, 0), false);
        Expect.due(17, "read too high", x.weigh(0, 0, 1000001001, 0), false);
        Expect.due(17, "slip below 0", x.weigh(0, 0, 100, -1), false);
        Expect.due(17, "slip too high", x.weigh(0, 0, 100, 1001), false);
        Expect.due(17, "in no cabinet", x.weigh(1, 0, 100, 0), false);
        Expect.due(17, "none told", x.count(5), 0);
        Expect.due(17, "the highest read", x.weigh(0, 0, 1000001000, 1000), true);
        for (int i = 1; i < 200; i++) {
            Expect.due(17, "sealed can be weighed", x.weigh(0, 3, 0, 0), true);
        }
        Expect.due(17, "full", x.weigh(0, 0, 100, 0), false);
        Expect.due(17, "200", x.count(5), 200);
    }

    private static void drifts() {
        StoneVault x = new StoneVault();
        Expect.due(18, "all", x.drifts(3, 99999, 0), 2001);
        Expect.due(18, "all", x.drifts(3, 0, 1), -1000);
        Expect.due(18, "all", x.drifts(3, 0, 2), 1000);
        Expect.due(18, "no scale", x.drifts(4, 0, 0), -2000);
        Expect.due(18, "no scale", x.drifts(-1, 0, 0), -2000);
        Expect.due(18, "no day", x.drifts(0, -1, 0), -2000);
        Expect.due(18, "no day", x.drifts(0, 100000, 0), -2000);
        Expect.due(18, "what 3", x.drifts(0, 0, 3), -2000);
        Expect.due(18, "what -1", x.drifts(0, 0, -1), -2000);
        x.stone(0, 0, 1000, 0, false);
        x.weigh(0, 0, 900, 20);
        x.trial(0, 500, 0);
        Expect.due(18, "by the weight then", x.drifts(0, 0, 1), -120);
        Expect.due(18, "by the weight then", x.drifts(0, 0, 2), -80);
        Expect.due(18, "how many", x.drifts(0, 0, 0), 41);
        x.now(2);
        x.weigh(0, 0, 410, 10);
        Expect.due(18, "both", x.drifts(0, 2, 0), 21);
        Expect.due(18, "the day before", x.drifts(0, 1, 0), 41);
        x.weigh(0, 0, 420, 0);
        Expect.due(18, "just one", x.drifts(0, 2, 1), -80);
        Expect.due(18, "just one", x.drifts(0, 2, 2), -80);
        Expect.due(18, "just one", x.drifts(0, 2, 0), 1);
        x.weigh(0, 0, 421, 0);
        Expect.due(18, "none", x.drifts(0, 2, 0), 0);
        Expect.due(18, "no least", x.drifts(0, 2, 1), -2000);
        Expect.due(18, "no greatest", x.drifts(0, 2, 2), -2000);
        Expect.due(18, "another scale", x.drifts(1, 2, 0), 2001);
        x.weigh(0, 1, 1500, 5);
        Expect.due(18, "cut off at 1000", x.drifts(1, 2, 0), 6);
        x.weigh(0, 2, 1501, 0);
        Expect.due(18, "beyond 1000", x.drifts(2, 2, 0), 0);
        StoneVault y = new StoneVault();
        y.stone(0, 0, 1500, 0, false);
        y.weigh(0, 0, 500, 0);
        Expect.due(18, "just -1000", y.drifts(0, 0, 1), -1000);
        Expect.due(18, "just -1000", y.drifts(0, 0, 2), -1000);
        Expect.due(18, "just -1000", y.drifts(0, 0, 0), 1);
        y.weigh(0, 1, 499, 0);
        Expect.due(18, "below -1000", y.drifts(1, 0, 0), 0);
        Expect.due(18, "below -1000", y.drifts(1, 0, 2), -2000);
        y.weigh(0, 2, 2500, 0);
        Expect.due(18, "just 1000", y.drifts(2, 0, 1), 1000);
        y.weigh(0, 3, 499, 1);
        Expect.due(18, "cut off at -1000", y.drifts(3, 0, 0), 1);
        y.stone(0, 0, 1000000000, 0, true);
        y.weigh(1, 3, 0, 1000);
        Expect.due(18, "read as nothing", y.drifts(3, 0, 0), 0);
    }

    private static void foundOrder() {
        StoneVault x = new StoneVault();
        x.asker(0, 0);
        x.stone(0, 0, 100, 0, true);
        x.stone(1, 0, 100, 0, false);
        x.stone(1, 0, 100, 0, false);
        x.stone(1, 0, 100, 0, false);
        x.lend(1, 0);
        x.give(2, 0, 0);
        x.trial(3, 100, 0);
        Expect.due(20, "nothing told", x.thing(0, 1), -1);
        Expect.numbers(x, 0, 100, 0, 0, 0);
        Expect.due(19, "n 0", x.found(0), -1);
        Expect.due(19, "n 7", x.found(7), -1);
        Expect.due(19, "n -1", x.found(-1), -1);
        Expect.due(19, "not so many", x.found(2), -1);
        Expect.due(19, "the tape stays", x.count(9), 20);
        Expect.due(19, "sealed", x.found(1), 1);
        Expect.due(19, "the tape is empty", x.count(9), 0);
        int[][] wrong = {{4, 100, 0, 8}, {-1, 100, 0, 8}, {3, 0, 0, 8}, {0, -1, 0, 8}, {0, 1000001001, 0, 8},
            {0, 100, -1, 8}, {0, 100, 1001, 8}, {0, 100, 0, 9}, {0, 100, 0, -1}};
        for (int[] numbers : wrong) {
            Expect.numbers(x, numbers);
            Expect.due(19, "wrong numbers", x.found(1), -2);
            Expect.due(19, "the tape is empty", x.count(9), 0);
        }
        int[][] wrongSecond = {{-1, 0, 8}, {100, -1, 8}, {100, 1001, 8}, {100, 0, 9}};
        for (int[] second : wrongSecond) {
            Expect.numbers(x, 0, 1, 100, 0, 8, second[0], second[1], second[2]);
            Expect.due(19, "wrong numbers of the second thing", x.found(2), -2);
        }
        Expect.numbers(x, 0, 1, 2, 100, 0, 8, 100, 0, 8, 100);
        Expect.due(19, "two numbers short", x.found(3), -1);
        Expect.due(19, "two numbers more than wanted", x.found(2), 0);
        Expect.numbers(x, 0, 0, 0, 8);
        Expect.due(19, "read as 0", x.found(1), 0);
        Expect.numbers(x, 0, 100, 0, 8);
        Expect.due(19, "told again", x.found(1), 1);
        Expect.numbers(x, 1, 1, 100, 0, 8, 100, 0, 8);
        Expect.due(19, "one twice", x.found(2), -2);
        Expect.due(20, "-2 changes nothing", x.thing(0, 0), 0);
        Expect.numbers(x, 2, 1, 100, 0, 8, 1000001000, 1000, 8);
        Expect.due(19, "lent and given, but too heavy", x.found(2), 0);
        Expect.numbers(x, 2, 1, 100, 0, 8, 100, 0, 1);
        Expect.due(19, "lent and given", x.found(2), 2);
        Expect.numbers(x, 2, 1, 100, 0, 8, 1000001000, 1000, 8);
        Expect.due(19, "none left for the second", x.found(2), 0);
        Expect.due(20, "no answers: not sure", x.thing(0, 0), -1);
        Expect.due(20, "no answers: none", x.thing(0, 1), 0);
        Expect.due(20, "no answers: none", x.thing(1, 1), 0);
        Expect.due(20, "no third thing", x.thing(2, 1), -1);
    }

    private static void foundSeven() {
        StoneVault x = new StoneVault();
        int[] numbers = new int[28];
        for (int p = 0; p < 7; p++) {
            x.stone(0, 0, 5, 0, false);
            numbers[p] = p;
            numbers[7 + 3 * p] = 5;
        }
        Expect.numbers(x, numbers);
        Expect.due(19, "seven, with all their numbers", x.found(7), -1);
        Expect.due(19, "the tape stays", x.count(9), 120);
        Expect.due(20, "nothing told", x.thing(0, 1), -1);
        int[] six = new int[24];
        for (int p = 0; p < 6; p++) {
            six[p] = 6 - p;
            six[6 + 3 * p] = 5;
        }
        x.check(0);
        Expect.numbers(x, six);
        Expect.due(19, "six alike: all orders", x.found(6), 720);
        Expect.due(20, "each may be each", x.thing(5, 1), 6);
        Expect.due(20, "from the lowest on", x.thing(5, 2), 1);
        Expect.due(20, "to the greatest", x.thing(5, 7), 6);
    }

    private static void foundAnswers() {
        StoneVault x = new StoneVault();
        x.stone(0, 0, 100, 0, false);
        x.stone(1, 0, 110, 0, false);
        x.stone(0, 0, 120, 0, false);
        Expect.numbers(x, 2, 0, 1, 115, 5, 8, 105, 5, 8, 105, 15, 0);
        Expect.due(19, "two answers", x.found(3), 2);
        Expect.due(20, "not sure", x.thing(0, 0), -1);
        Expect.due(20, "may", x.thing(0, 1), 2);
        Expect.due(20, "the lowest", x.thing(0, 2), 1);
        Expect.due(20, "the next", x.thing(0, 3), 2);
        Expect.due(20, "no more", x.thing(0, 4), -1);
        Expect.due(20, "of the second", x.thing(1, 2), 0);
        Expect.due(20, "of the second", x.thing(1, 3), 1);
        Expect.due(20, "of the third", x.thing(2, 1), 2);
        Expect.due(20, "no thing", x.thing(3, 0), -1);
        Expect.due(20, "no thing", x.thing(-1, 0), -1);
        Expect.due(20, "what -1", x.thing(0, -1), -1);
        Expect.due(20, "what far", x.thing(0, 2147483647), -1);
        Expect.due(20, "what far", x.thing(0, -2147483648), -1);
        x.trial(0, 100, 0);
        Expect.due(20, "as told then", x.thing(1, 2), 0);
        Expect.numbers(x, 1, 2, 110, 0, 8, 120, 0, 8);
        Expect.due(19, "one answer", x.found(2), 1);
        Expect.due(20, "sure", x.thing(0, 0), 1);
        Expect.due(20, "sure", x.thing(1, 0), 2);
        Expect.due(20, "fewer things", x.thing(2, 0), -1);
        StoneVault y = new StoneVault();
        int[] numbers = new int[24];
        for (int p = 0; p < 6; p++) {
            y.stone(p, 0, 50, 0, false);
            numbers[p] = 5 - p;
            numbers[6 + 3 * p] = 50;
            numbers[8 + 3 * p] = 8;
        }
        Expect.numbers(y, numbers);
        Expect.due(19, "all ways", y.found(6), 720);
        for (int j = 0; j < 6; j++) {
            Expect.due(20, "from the lowest on", y.thing(5, 2 + j), j);
        }
    }
}
