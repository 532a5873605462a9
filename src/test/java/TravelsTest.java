/** Promises 21 to 24: ways, gifts, sights, and where a gift can be. */
public final class TravelsTest {
    public static void main(String[] args) {
        ways();
        gifts();
        sights();
        wheres();
        allPlaces();
        Expect.end();
    }

    /** From PLACE 5 through all others, each by the longest WAY that there is. */
    private static void allPlaces() {
        StoneVault x = new StoneVault();
        x.stone(0, 0, 10, 0, false);
        x.now(7);
        x.give(0, 0, 5);
        for (int i = 1; i < 16; i++) {
            x.way((5 * i) % 16, (5 * i + 5) % 16, 1000);
        }
        x.now(99999);
        int bits = 0;
        for (int i = 0; i < 16; i++) {
            bits |= 1 << (5 * i + 5) % 16;
            Expect.due(24, "after " + i + " WAYS", x.where(0, 7 + 1000 * i), bits);
            Expect.due(24, "a DAY before the next", x.where(0, 7 + 1000 * i + 999), bits);
        }
        Expect.due(24, "all PLACES", x.where(0, 99999), 65535);
        x.sight(0, 0, 99999);
        Expect.due(24, "back from all PLACES", x.where(0, 99999 - 15000), 65535);
        Expect.due(24, "too late for the farthest one", x.where(0, 99999 - 14999), 65535 & ~(1 << 5));
        Expect.due(24, "a DAY before it", x.where(0, 99998), 1);
    }

    private static void ways() {
        StoneVault x = new StoneVault();
        Expect.due(21, "no place", x.way(16, 0, 1), false);
        Expect.due(21, "no place", x.way(-1, 0, 1), false);
        Expect.due(21, "no place", x.way(0, 16, 1), false);
        Expect.due(21, "no place", x.way(0, -1, 1), false);
        Expect.due(21, "one twice", x.way(3, 3, 1), false);
        Expect.due(21, "no days", x.way(0, 1, 0), false);
        Expect.due(21, "too many days", x.way(0, 1, 1001), false);
        Expect.due(21, "the shortest", x.way(1, 2, 1), true);
        Expect.due(21, "the longest", x.way(0, 15, 1000), true);
        x.stone(0, 0, 1, 0, false);
        x.give(0, 0, 15);
        x.now(1000);
        Expect.due(21, "both ways", x.where(0, 1000), 1 << 15 | 1);
        Expect.due(21, "not before", x.where(0, 999), 1 << 15);
        Expect.due(21, "told anew", x.way(15, 0, 3), true);
        Expect.due(21, "the latest counts", x.where(0, 3), 1 << 15 | 1);
        x.way(0, 15, 4);
        Expect.due(21, "the latest counts", x.where(0, 3), 1 << 15);
    }

    private static void gifts() {
        StoneVault x = new StoneVault();
        x.asker(0, 0);
        x.stone(0, 0, 10, 0, false);
        x.stone(0, 0, 10, 0, true);
        x.stone(0, 0, 10, 0, false);
        x.lend(2, 0);
        Expect.due(22, "no piece", x.give(3, 0, 0), -1);
        Expect.due(22, "no piece", x.give(-1, 0, 0), -1);
        Expect.due(22, "no land", x.give(0, 100, 0), -1);
        Expect.due(22, "no land", x.give(0, -1, 0), -1);
        Expect.due(22, "no place", x.give(0, 0, 16), -1);
        Expect.due(22, "no place", x.give(0, 0, -1), -1);
        Expect.due(22, "sealed", x.give(1, 0, 0), -1);
        Expect.due(22, "lent", x.give(2, 0, 0), -1);
        x.now(8);
        Expect.due(22, "the first", x.give(0, 99, 15), 0);
        Expect.due(22, "given", x.piece(0, 4), 11);
        Expect.due(22, "has met nothing", x.piece(0, 3), 0);
        Expect.due(22, "there that day", x.where(0, 8), 1 << 15);
        Expect.due(22, "given again", x.give(0, 99, 15), -1);
        StoneVault y = new StoneVault();
        for (int i = 0; i < 40; i++) {
            y.stone(0, 0, 10, 0, false);
            Expect.due(22, "number", y.give(i, 0, 0), i);
        }
        y.stone(0, 0, 10, 0, false);
        Expect.due(22, "full", y.give(40, 0, 0), -1);
        Expect.due(22, "full", y.count(6), 40);
        Expect.due(22, "it stays", y.piece(40, 4), 0);
    }

    private static void sights() {
        StoneVault x = new StoneVault();
        x.stone(0, 0, 10, 0, false);
        x.now(5);
        x.give(0, 0, 0);
        x.now(9);
        Expect.due(23, "no gift", x.sight(1, 0, 6), false);
        Expect.due(23, "no gift", x.sight(-1, 0, 6), false);
        Expect.due(23, "no place", x.sight(0, 16, 6), false);
        Expect.due(23, "no place", x.sight(0, -1, 6), false);
        Expect.due(23, "before the giving", x.sight(0, 0, 4), false);
        Expect.due(23, "behind now", x.sight(0, 0, 10), false);
        Expect.due(23, "none told", x.count(7), 0);
        for (int i = 0; i < 100; i++) {
            Expect.due(23, "told", x.sight(0, 0, 5 + i % 5), true);
        }
        Expect.due(23, "full", x.sight(0, 0, 6), false);
        Expect.due(23, "full", x.count(7), 100);
    }

    private static void wheres() {
        StoneVault x = new StoneVault();
        x.stone(0, 0, 10, 0, false);
        x.stone(0, 0, 10, 0, false);
        x.way(0, 1, 5);
        x.way(1, 2, 5);
        x.way(2, 3, 5);
        x.way(0, 3, 100);
        x.now(10);
        x.give(0, 0, 0);
        x.now(20);
        x.give(1, 0, 3);
        x.now(60);
        Expect.due(24, "no gift", x.where(2, 60), -1);
        Expect.due(24, "no gift", x.where(-1, 60), -1);
        Expect.due(24, "before the giving", x.where(0, 9), -1);
        Expect.due(24, "behind now", x.where(0, 61), -1);
        Expect.due(24, "by several ways", x.where(0, 25), 15);
        Expect.due(24, "by two ways", x.where(0, 24), 7);
        x.sight(0, 2, 30);
        Expect.due(24, "to where it was seen", x.where(0, 20), 7);
        Expect.due(24, "to and from", x.where(0, 25), 14);
        Expect.due(24, "to and from", x.where(0, 26), 4);
        Expect.due(24, "just there", x.where(0, 30), 4);
        Expect.due(24, "the other gift is its own", x.where(1, 30), 14);
        Expect.due(24, "behind the last told", x.where(0, 34), 4);
        Expect.due(24, "behind the last told", x.where(0, 35), 14);
        x.sight(0, 0, 30);
        Expect.due(24, "two told for the day", x.where(0, 30), 0);
        Expect.due(24, "two told behind", x.where(0, 20), 0);
        Expect.due(24, "two told before", x.where(0, 40), 0);
        Expect.due(24, "the day of giving", x.where(0, 10), 1);
        x.sight(0, 0, 40);
        Expect.due(24, "told again", x.where(0, 50), 7);
        Expect.due(24, "two told before", x.where(0, 35), 0);
        x.sight(0, 4, 10);
        Expect.due(24, "two told for the giving", x.where(0, 10), 0);
        Expect.due(24, "two told for the giving", x.where(0, 11), 0);
        x.sight(1, 0, 22);
        Expect.due(24, "too far: none between", x.where(1, 21), 0);
        Expect.due(24, "too far: just there", x.where(1, 22), 1);
        Expect.due(24, "too far: on from there", x.where(1, 27), 3);
    }
}
