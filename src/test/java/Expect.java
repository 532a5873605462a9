import java.util.Arrays;

/** What the tests share: due answers, and a tape fed by numbers or by a text. */
final class Expect {
    private static int wrong = 0;
    private static int asked = 0;

    private Expect() {
    }

    static void due(int promise, String what, long got, long want) {
        asked++;
        if (got != want) {
            wrong++;
            System.out.println("promise " + promise + ": " + what + " answered " + got + ", due is " + want);
        }
    }

    static void due(int promise, String what, boolean got, boolean want) {
        due(promise, what, got ? 1 : 0, want ? 1 : 0);
    }

    /** Feeds the numbers; the last call's rest is 0. */
    static void numbers(StoneVault x, int... numbers) {
        int[] padded = Arrays.copyOf(numbers, (numbers.length + 4) / 5 * 5);
        for (int i = 0; i < padded.length; i += 5) {
            x.feed(padded[i], padded[i + 1], padded[i + 2], padded[i + 3], padded[i + 4]);
        }
    }

    static void text(StoneVault x, String text) {
        int[] numbers = new int[(text.length() + 3) / 4];
        for (int i = 0; i < 4 * numbers.length; i++) {
            int sign = i < text.length() ? text.charAt(i) : ' ';
            numbers[i / 4] = numbers[i / 4] << 8 | sign;
        }
        numbers(x, numbers);
    }

    static int rules(StoneVault x, int from, int to, String text) {
        text(x, text);
        return x.rules(from, to, text.length());
    }

    /** RULES that are always in FORCE. */
    static int rules(StoneVault x, String text) {
        return rules(x, 0, 99999, text);
    }

    static void end() {
        System.out.println(wrong == 0 ? asked + " answers are as due" : wrong + " of " + asked + " answers are not as due");
        if (wrong != 0) {
            System.exit(1);
        }
    }
}
