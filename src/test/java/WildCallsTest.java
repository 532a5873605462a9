import java.util.Random;

/** Calls with any arguments in any state: none throws, and what came is always somewhere. */
public final class WildCallsTest {
    private static final Random RANDOM = new Random(99);
    private static final int[] EDGES = {-2147483648, -1000000001, -2, -1, 0, 1, 2, 3, 6, 7, 8, 9, 10, 15, 16, 19, 20, 39, 40,
        99, 100, 149, 150, 1000, 1001, 65535, 65536, 99999, 100000, 1000000, 1000000000, 1000000001, 1000001001, 2147483647};

    public static void main(String[] args) {
        for (int i = 0; i < 300; i++) {
            StoneVault x = new StoneVault();
            int wildness = RANDOM.nextInt(30);
            for (int call = 0; call < 1200; call++) {
                one(x, wildness);
            }
            for (int kind = -1; kind < 8; kind++) {
                long somewhere = 0;
                for (int what = 1; what <= 6; what++) {
                    somewhere += x.sum(kind, what);
                }
                Expect.due(32, "all that came is somewhere", somewhere, x.sum(kind, 0));
            }
        }
        longUse();
        Expect.end();
    }

    /** Far behind the 512 calls its answers are free, but none throws. */
    private static void longUse() {
        StoneVault x = new StoneVault();
        x.asker(0, 0);
        x.stone(0, 0, 1000000, 0, false);
        x.stone(0, 0, 1000000, 0, false);
        for (int i = 0; i < 3000; i++) {
            x.now(i / 9);
            x.move(1, i % 10);
            x.stone(0, 0, 1, 0, false);
            x.trial(0, 1, 1);
            x.lend(0, 0);
            x.back(i, x.piece(0, 2), 0, 0, 0);
            x.weigh(0, 0, 1, 1);
            x.give(i + 2, 0, 0);
            x.sight(0, 0, x.count(0));
            x.was(0, i, 2);
            x.feed(1, 1, 1, 1, 1);
            Expect.due(1, "NOW goes on", x.count(0), i / 9);
        }
    }

    private static int any(int wildness, int usual) {
        int choice = RANDOM.nextInt(100);
        if (choice < wildness) {
            return choice % 3 == 0 ? RANDOM.nextInt() : EDGES[RANDOM.nextInt(EDGES.length)];
        }
        return RANDOM.nextInt(usual + 1);
    }

    private static int signs(int wildness) {
        String text = "b(f=1);x0.0;d9(w/h>2|!k%s=a);t9(";
        int number = 0;
        int start = RANDOM.nextInt(text.length());
        for (int i = 0; i < 4; i++) {
            number = number << 8 | text.charAt((start + i) % text.length());
        }
        return RANDOM.nextInt(2) == 0 ? number : any(wildness, 20);
    }

    private static void one(StoneVault x, int w) {
        switch (RANDOM.nextInt(32)) {
            case 0: x.now(any(w, 1 + x.count(0))); break;
            case 1: x.gas(any(w, 9), any(w, 255)); break;
            case 2: case 3: x.stone(any(w, 7), any(w, 9), any(w, 5000), any(w, 9), RANDOM.nextBoolean()); break;
            case 4: x.move(any(w, 30), any(w, 9)); break;
            case 5: x.open(any(w, 30)); break;
            case 6: case 7: x.feed(signs(w), signs(w), signs(w), signs(w), signs(w)); break;
            case 8: x.cut(any(w, 30), any(w, 15), any(w, 6)); break;
            case 9: x.trial(any(w, 30), any(w, 20), any(w, 3)); break;
            case 10: x.asker(any(w, 9), any(w, 7)); break;
            case 11: rules(x, w); break;
            case 12: case 13: x.lend(any(w, 30), any(w, 3)); break;
            case 14: x.back(any(w, 10), any(w, 3000), any(w, 2), any(w, 3), any(w, 9)); break;
            case 15: x.loan(any(w, 10), any(w, 6)); break;
            case 16: x.piece(any(w, 30), any(w, 7)); break;
            case 17: x.was(any(w, 30), any(w, 20), any(w, 5)); break;
            case 18: x.weigh(any(w, 30), any(w, 3), any(w, 6000), any(w, 1000)); break;
            case 19: x.drifts(any(w, 3), any(w, 20), any(w, 2)); break;
            case 20: x.found(any(w, 3)); break;
            case 21: x.thing(any(w, 3), any(w, 4)); break;
            case 22: x.way(any(w, 15), any(w, 15), any(w, 9)); break;
            case 23: x.give(any(w, 30), any(w, 99), any(w, 15)); break;
            case 24: x.sight(any(w, 3), any(w, 15), any(w, 20)); break;
            case 25: x.where(any(w, 3), any(w, 20)); break;
            case 26: x.ask(any(w, 1000), any(w, 20), any(w, 3)); break;
            case 27: x.clear(); break;
            case 28: x.loss(any(w, 20)); x.best(any(w, 7), any(w, 6) - 1); break;
            case 29: x.judge(any(w, 7), any(w, 700)); break;
            case 30: x.next(any(w, 7), any(w, 3), any(w, 100)); break;
            default: x.check(any(w, 2)); x.sum(any(w, 7), any(w, 7)); x.count(any(w, 60));
        }
    }

    private static void rules(StoneVault x, int w) {
        String[] texts = {"b(w%a=7)", "d5(l/s>3);t10(d>2)", "x0.0;x1.1;x2.0", "t900(k=1|h<f);d3([m+1]*w-2>9)", "b(f=)"};
        if (RANDOM.nextBoolean()) {
            Expect.rules(x, any(w, 5), any(w, 90), texts[RANDOM.nextInt(texts.length)]);
        } else {
            x.rules(any(w, 5), any(w, 90), any(w, 160));
        }
    }
}
