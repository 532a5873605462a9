/** Promises 1 to 9, 15 and 16: days, gas, pieces, the tape, cuts and trials. */
public final class PiecesTest {
    public static void main(String[] args) {
        newObject();
        days();
        gases();
        stones();
        moves();
        opens();
        feeds();
        cuts();
        cutRefusals();
        cutsOutOfRoom();
        trials();
        pieces();
        past();
        longPast();
        Expect.end();
    }

    private static void newObject() {
        StoneVault x = new StoneVault();
        for (int what = 0; what <= 9; what++) {
            Expect.due(1, "count " + what, x.count(what), 0);
        }
        Expect.due(1, "no piece", x.piece(0, 0), -1);
        Expect.due(1, "no rules", x.count(20), -1);
        Expect.due(1, "no loan", x.loan(0, 0), -1);
        Expect.due(1, "no gas", x.count(49), 0);
        StoneVault other = new StoneVault();
        other.stone(0, 0, 1, 0, false);
        other.gas(0, 1);
        Expect.due(1, "its own memory", x.count(1), 0);
        Expect.due(1, "its own gas", x.count(40), 0);
    }

    private static void days() {
        StoneVault x = new StoneVault();
        Expect.due(2, "today again", x.now(0), true);
        Expect.due(2, "before the first", x.now(-1), false);
        Expect.due(2, "behind the last", x.now(100000), false);
        Expect.due(2, "later", x.now(7), true);
        Expect.due(2, "past", x.now(6), false);
        Expect.due(2, "unmoved", x.count(0), 7);
        Expect.due(2, "the last", x.now(99999), true);
        Expect.due(2, "the last is now", x.count(0), 99999);
    }

    private static void gases() {
        StoneVault x = new StoneVault();
        Expect.due(3, "no cabinet", x.gas(10, 1), false);
        Expect.due(3, "no cabinet", x.gas(-1, 1), false);
        Expect.due(3, "17 bits", x.gas(0, 65536), false);
        Expect.due(3, "negative bits", x.gas(0, -1), false);
        Expect.due(3, "all bits", x.gas(9, 65535), true);
        Expect.due(3, "told", x.count(49), 65535);
        Expect.due(3, "another", x.gas(9, 2), true);
        Expect.due(3, "the latest", x.count(49), 2);
    }

    private static void stones() {
        StoneVault x = new StoneVault();
        x.gas(3, 5);
        Expect.due(4, "kind", x.stone(8, 0, 1, 0, false), -1);
        Expect.due(4, "kind", x.stone(-1, 0, 1, 0, false), -1);
        Expect.due(4, "site", x.stone(0, 10, 1, 0, false), -1);
        Expect.due(4, "site", x.stone(0, -1, 1, 0, false), -1);
        Expect.due(4, "weight", x.stone(0, 0, 0, 0, false), -1);
        Expect.due(4, "weight", x.stone(0, 0, 1000000001, 0, false), -1);
        Expect.due(4, "cabinet", x.stone(0, 0, 1, 10, false), -1);
        Expect.due(4, "cabinet", x.stone(0, 0, 1, -1, false), -1);
        Expect.due(4, "refused ones leave none", x.count(1), 0);
        Expect.due(4, "first", x.stone(7, 9, 1000000000, 3, false), 0);
        Expect.due(4, "has met nothing", x.piece(0, 3), 0);
        for (int p = 1; p < 150; p++) {
            Expect.due(4, "next", x.stone(0, 0, p, 0, p % 2 == 0), p);
        }
        Expect.due(4, "full", x.stone(0, 0, 1, 0, false), -1);
        Expect.due(4, "full", x.count(1), 150);
        Expect.due(4, "last weight", x.piece(149, 2), 149);
    }

    private static void moves() {
        StoneVault x = new StoneVault();
        x.stone(0, 0, 9, 0, false);
        x.stone(0, 0, 9, 0, true);
        x.gas(0, 1);
        x.gas(9, 6);
        Expect.due(5, "no piece", x.move(2, 0), false);
        Expect.due(5, "no piece", x.move(-1, 0), false);
        Expect.due(5, "no cabinet", x.move(0, 10), false);
        Expect.due(5, "no cabinet", x.move(0, -1), false);
        Expect.due(5, "nothing met", x.piece(0, 3), 0);
        Expect.due(5, "its own", x.move(0, 0), true);
        Expect.due(5, "met", x.piece(0, 3), 1);
        Expect.due(5, "another", x.move(0, 9), true);
        Expect.due(5, "met both", x.piece(0, 3), 7);
        Expect.due(5, "there", x.piece(0, 4), 9);
        Expect.due(5, "sealed", x.move(1, 9), true);
        Expect.due(5, "sealed meets nothing", x.piece(1, 3), 0);
        Expect.due(5, "sealed still", x.piece(1, 7), 1);
        Expect.due(5, "sealed is there", x.piece(1, 4), 9);
        x.give(0, 0, 0);
        Expect.due(5, "given", x.move(0, 0), false);
        x.asker(0, 0);
        x.open(1);
        x.lend(1, 0);
        Expect.due(5, "lent", x.move(1, 0), false);
    }

    private static void opens() {
        StoneVault x = new StoneVault();
        x.gas(2, 12);
        x.stone(0, 0, 9, 2, true);
        x.stone(0, 0, 9, 2, false);
        Expect.due(6, "none", x.open(2), false);
        Expect.due(6, "none", x.open(-1), false);
        Expect.due(6, "not sealed", x.open(1), false);
        Expect.due(6, "not sealed meets nothing", x.piece(1, 3), 0);
        Expect.due(6, "sealed", x.open(0), true);
        Expect.due(6, "meets", x.piece(0, 3), 12);
        Expect.due(6, "no more sealed", x.piece(0, 7), 0);
        Expect.due(6, "twice", x.open(0), false);
        Expect.due(6, "its day", x.was(0, 0, 3), 12);
    }

    private static void feeds() {
        StoneVault x = new StoneVault();
        for (int i = 1; i <= 20; i++) {
            Expect.due(7, "feed", x.feed(i, i, i, i, i), 20 * i);
        }
        Expect.due(7, "full", x.feed(0, 0, 0, 0, 0), -1);
        Expect.due(7, "full", x.count(9), 400);
        Expect.due(7, "bytes, the highest first", Expect.rules(new StoneVault(), "b(f=1)"), 0);
        StoneVault y = new StoneVault();
        y.stone(0, 0, 1000000000, 0, false);
        y.feed(0x01020304, 2, 0, 0, 0);
        Expect.due(7, "cut by numbers", y.cut(0, 0, 2), 1);
        Expect.due(7, "the highest first", y.piece(1, 2), 0x01020304);
    }

    private static void cuts() {
        StoneVault x = new StoneVault();
        x.gas(4, 3);
        x.stone(5, 6, 100, 0, false);
        x.move(0, 4);
        Expect.numbers(x, 10, 20, 30, 1, 2, 37);
        Expect.due(8, "six parts", x.cut(0, 15, 6), 1);
        Expect.due(8, "tape", x.count(9), 0);
        int[] weights = {10, 20, 30, 1, 2, 37};
        for (int i = 0; i < 6; i++) {
            Expect.due(8, "part", x.piece(1 + i, 2), weights[i]);
            Expect.due(8, "part's kind", x.piece(1 + i, 0), 5);
            Expect.due(8, "part's site", x.piece(1 + i, 1), 6);
            Expect.due(8, "part's met", x.piece(1 + i, 3), 3 | 1 << 15);
            Expect.due(8, "part's cabinet", x.piece(1 + i, 4), 4);
            Expect.due(8, "part's whole", x.piece(1 + i, 5), 0);
            Expect.due(8, "part's root", x.piece(1 + i, 6), 0);
        }
        Expect.due(8, "nothing lost", x.sum(5, 4), 0);
        Expect.due(8, "the whole is done", x.piece(0, 4), 12);
        Expect.due(8, "the whole has no weight", x.piece(0, 2), 0);
        Expect.due(8, "the whole has not met the saw", x.piece(0, 3), 3);
        Expect.numbers(x, 1, 2);
        Expect.due(8, "two parts", x.cut(2, 0, 2), 7);
        Expect.due(8, "lost", x.sum(5, 4), 17);
        Expect.due(8, "part of a part", x.piece(8, 5), 2);
        Expect.due(8, "root of both", x.piece(8, 6), 0);
    }

    private static void cutRefusals() {
        StoneVault x = new StoneVault();
        x.asker(0, 0);
        x.stone(0, 0, 100, 0, false);
        x.stone(0, 0, 100, 0, true);
        x.stone(0, 0, 100, 0, false);
        x.lend(2, 0);
        Expect.numbers(x, 50, 51);
        Expect.due(8, "no piece", x.cut(3, 0, 2), -1);
        Expect.due(8, "no piece", x.cut(-1, 0, 2), -1);
        Expect.due(8, "saw", x.cut(0, 16, 2), -1);
        Expect.due(8, "saw", x.cut(0, -1, 2), -1);
        Expect.due(8, "one part", x.cut(0, 0, 1), -1);
        Expect.due(8, "seven parts", x.cut(0, 0, 7), -1);
        Expect.due(8, "sealed", x.cut(1, 0, 2), -1);
        Expect.due(8, "lent", x.cut(2, 0, 2), -1);
        Expect.due(8, "not so many", x.cut(0, 0, 6), -1);
        x.trial(0, 0, 0);
        Expect.due(8, "no piece, before wrong weights", x.cut(9, 0, 2), -1);
        Expect.due(8, "sealed, before wrong weights", x.cut(1, 0, 3), -1);
        Expect.due(8, "the tape stays", x.count(9), 20);
        StoneVault y = new StoneVault();
        y.stone(0, 0, 100, 0, false);
        Expect.numbers(y, 1, 1, 1, 1, 1, 1, 1, 1, 1, 1);
        Expect.due(8, "seven parts with as many numbers", y.cut(0, 0, 7), -1);
        Expect.due(8, "six parts of ten numbers", y.cut(0, 3, 6), 1);
        Expect.due(8, "the whole has met nothing", y.piece(0, 3), 0);
        Expect.due(8, "the tape is empty", y.count(9), 0);
        Expect.due(8, "too heavy", x.cut(0, 0, 2), -2);
        Expect.due(8, "the tape is empty", x.count(9), 0);
        Expect.numbers(x, -2147483648, -2147483648);
        Expect.due(8, "together below an int", x.cut(0, 0, 2), -2);
        Expect.numbers(x, 50, 0);
        Expect.due(8, "weight 0", x.cut(0, 0, 2), -2);
        Expect.numbers(x, 101, -1);
        Expect.due(8, "weight below 0", x.cut(0, 0, 2), -2);
        Expect.numbers(x, 2147483647, 2147483647, 3);
        Expect.due(8, "together beyond an int", x.cut(0, 0, 3), -2);
        Expect.due(8, "unchanged", x.piece(0, 2), 100);
        Expect.due(8, "no parts", x.count(1), 3);
        Expect.numbers(x, 50, 50);
        Expect.due(8, "just its weight", x.cut(0, 0, 2), 3);
    }

    private static void cutsOutOfRoom() {
        StoneVault x = new StoneVault();
        for (int p = 0; p < 148; p++) {
            x.stone(0, 0, 100, 0, false);
        }
        Expect.numbers(x, 1, 1, 1);
        Expect.due(8, "151 pieces", x.cut(0, 0, 3), -3);
        Expect.due(8, "the tape is empty", x.count(9), 0);
        Expect.due(8, "unchanged", x.piece(0, 2), 100);
        Expect.numbers(x, 1, 100, 1);
        Expect.due(8, "weights before room", x.cut(0, 0, 3), -2);
        Expect.numbers(x, 1, 1);
        Expect.due(8, "150 pieces", x.cut(0, 0, 2), 148);
        Expect.due(8, "150 pieces", x.count(1), 150);
    }

    private static void trials() {
        StoneVault x = new StoneVault();
        x.stone(1, 0, 100, 0, false);
        x.stone(1, 0, 100, 0, true);
        Expect.due(9, "none", x.trial(2, 1, 0), -1);
        Expect.due(9, "none", x.trial(-1, 1, 0), -1);
        Expect.due(9, "more than its weight", x.trial(0, 101, 0), -1);
        Expect.due(9, "below 0", x.trial(0, -1, 0), -1);
        Expect.due(9, "17 bits", x.trial(0, 1, 65536), -1);
        Expect.due(9, "bits below 0", x.trial(0, 1, -1), -1);
        Expect.due(9, "sealed", x.trial(1, 1, 0), -1);
        Expect.due(9, "nothing eaten", x.trial(0, 0, 4), 100);
        Expect.due(9, "met", x.piece(0, 3), 4);
        Expect.due(9, "eaten", x.trial(0, 99, 65535), 1);
        Expect.due(9, "met all", x.piece(0, 3), 65535);
        Expect.due(9, "still there", x.piece(0, 4), 0);
        Expect.due(9, "the last", x.trial(0, 1, 0), 0);
        Expect.due(9, "done", x.piece(0, 4), 12);
        Expect.due(9, "done for good", x.trial(0, 0, 0), -1);
        Expect.due(9, "sum", x.sum(1, 5), 100);
        Expect.due(9, "moved no more", x.move(0, 1), false);
        x.asker(0, 0);
        x.stone(1, 0, 100, 0, false);
        x.stone(1, 0, 100, 0, false);
        x.lend(2, 0);
        x.give(3, 0, 0);
        Expect.due(9, "lent", x.trial(2, 1, 0), -1);
        Expect.due(9, "given", x.trial(3, 1, 0), -1);
        Expect.due(9, "refused ones eat nothing", x.sum(1, 5), 100);
    }

    private static void pieces() {
        StoneVault x = new StoneVault();
        x.stone(3, 4, 50, 5, true);
        int[] want = {3, 4, 50, 0, 5, -1, 0, 1};
        for (int what = 0; what <= 7; what++) {
            Expect.due(15, "what " + what, x.piece(0, what), want[what]);
        }
        Expect.due(15, "what 8", x.piece(0, 8), -1);
        Expect.due(15, "what -1", x.piece(0, -1), -1);
        Expect.due(15, "no piece", x.piece(1, 0), -1);
        Expect.due(15, "no piece", x.piece(-1, 0), -1);
        x.open(0);
        x.give(0, 1, 1);
        Expect.due(15, "given", x.piece(0, 4), 11);
        Expect.due(15, "given keeps its weight", x.piece(0, 2), 50);
        x.stone(0, 0, 1, 0, false);
        Expect.due(15, "own root", x.piece(1, 6), 1);
    }

    private static void past() {
        StoneVault x = new StoneVault();
        x.asker(0, 0);
        x.gas(1, 8);
        x.now(2);
        x.stone(0, 0, 100, 0, false);
        x.now(4);
        x.move(0, 1);
        x.trial(0, 10, 1);
        x.now(6);
        x.lend(0, 0);
        x.now(8);
        x.back(0, 50, 40, 2, 3);
        x.give(0, 0, 0);
        x.now(9);
        int[][] want = {{-1, -1, -1}, {-1, -1, -1}, {100, 0, 0}, {100, 0, 0}, {90, 9, 1}, {90, 9, 1},
            {90, 9, 10}, {90, 9, 10}, {50, 11, 11}, {50, 11, 11}};
        for (int day = 0; day <= 9; day++) {
            for (int what = 2; what <= 4; what++) {
                Expect.due(16, "day " + day + ", what " + what, x.was(0, day, what), want[day][what - 2]);
            }
        }
        Expect.due(16, "what 1", x.was(0, 9, 1), -1);
        Expect.due(16, "what 5", x.was(0, 9, 5), -1);
        Expect.due(16, "day 10", x.was(0, 10, 2), -1);
        Expect.due(16, "day -1", x.was(0, -1, 2), -1);
        Expect.due(16, "no piece", x.was(1, 9, 2), -1);
        Expect.due(16, "no piece", x.was(-1, 9, 2), -1);
    }

    /** Nearly as many changes as 512 calls can make: none is forgotten. */
    private static void longPast() {
        StoneVault x = new StoneVault();
        x.stone(0, 0, 1000000, 0, false);
        int whole = 0;
        for (int cuts = 0; cuts < 24; cuts++) {
            int next = x.count(1);
            x.feed(x.piece(whole, 2) - 5, 1, 1, 1, 1);
            x.feed(1, 0, 0, 0, 0);
            Expect.due(8, "first part", x.cut(whole, 0, 6), next);
            whole = next;
        }
        for (int day = 0; day < 5; day++) {
            x.now(day);
            for (int moves = 0; moves < 72; moves++) {
                x.move(2, moves % 10);
            }
            x.move(2, day + 3);
        }
        x.move(whole, 9);
        for (int day = 0; day < 5; day++) {
            Expect.due(16, "after many changes, day " + day, x.was(2, day, 4), day + 3);
        }
        Expect.due(16, "the last change", x.was(whole, 4, 4), 9);
        Expect.due(16, "the last change, the day before", x.was(whole, 3, 4), 0);
    }
}
