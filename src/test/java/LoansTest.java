/** Promises 10 to 14: askers, the texts of rules and their faults, loans. */
public final class LoansTest {
    public static void main(String[] args) {
        askers();
        rulesOrder();
        daysOfForce();
        rightTexts();
        faultsOfPlace();
        faultsOfDigits();
        faultsOfNumbers();
        faultsOfClauses();
        faultsOfDepth();
        lendRefusals();
        lastDays();
        letters();
        reckoning();
        askedFromTheLeft();
        numbersOfRules();
        strikes();
        keeping();
        backs();
        loans();
        Expect.end();
    }

    private static void askers() {
        StoneVault x = new StoneVault();
        Expect.due(10, "house", x.asker(10, 0), -1);
        Expect.due(10, "house", x.asker(-1, 0), -1);
        Expect.due(10, "field", x.asker(0, 8), -1);
        Expect.due(10, "field", x.asker(0, -1), -1);
        for (int i = 0; i < 20; i++) {
            Expect.due(10, "number", x.asker(9, 7), i);
        }
        Expect.due(10, "full", x.asker(0, 0), -1);
        Expect.due(10, "count", x.count(2), 20);
    }

    private static void rulesOrder() {
        StoneVault x = new StoneVault();
        Expect.text(x, "b(f=1)");
        Expect.due(11, "no day", x.rules(-1, 0, 6), -1);
        Expect.due(11, "no day", x.rules(0, 100000, 6), -1);
        Expect.due(11, "no bytes", x.rules(0, 0, 0), -1);
        Expect.due(11, "not so many", x.rules(0, 0, 21), -1);
        Expect.due(11, "the tape stays", x.count(9), 20);
        Expect.due(11, "the first", x.rules(0, 99999, 6), 0);
        Expect.due(11, "the tape is empty", x.count(9), 0);
        Expect.due(11, "a fault", Expect.rules(x, "q"), -1000);
        Expect.due(11, "the tape is empty", x.count(9), 0);
        Expect.due(11, "a fault makes none", x.count(3), 1);
        Expect.due(11, "160 bytes", Expect.rules(x, longText(160)), 1);
        Expect.due(11, "161 bytes", Expect.rules(new StoneVault(), longText(161)), -1);
        for (int i = 2; i < 20; i++) {
            Expect.due(11, "number", Expect.rules(x, "x0.0;x0.1"), i);
            Expect.due(33, "clauses", x.count(20 + i), 2);
        }
        Expect.due(11, "full", Expect.rules(x, "b(f=1)"), -1);
        Expect.due(11, "full, the tape stays", x.count(9), 20);
        x.check(0);
        Expect.due(11, "full, before a FAULT", Expect.rules(x, "b(f=)"), -1);
        Expect.due(11, "full, before a FAULT, the tape stays", x.count(9), 20);
        StoneVault y = new StoneVault();
        Expect.text(y, longText(160) + "b(f=1)");
        Expect.due(11, "161 bytes of a longer tape", y.rules(0, 99999, 161), -1);
        Expect.due(11, "bytes below 0", y.rules(0, 99999, -1), -1);
        Expect.due(11, "from behind the last DAY", y.rules(100000, 100000, 160), -1);
        Expect.due(11, "the first 160 bytes of a longer tape", y.rules(0, 99999, 160), 0);
        Expect.due(11, "the rest is gone too", y.count(9), 0);
    }

    /** Both told DAYS are DAYS of FORCE, so that no RULES end before they begin. */
    private static void daysOfForce() {
        int[][] none = {{1, 0}, {72, 0}, {99999, 0}, {99999, 99998}, {50, 49}};
        for (int[] days : none) {
            StoneVault x = new StoneVault();
            Expect.text(x, "b(f=1);b(f=)");
            Expect.due(11, "from " + days[0] + " to " + days[1], x.rules(days[0], days[1], 6), -1);
            Expect.due(11, "no such ones, before a FAULT", x.rules(days[0], days[1], 12), -1);
            Expect.due(11, "no such ones, the tape stays", x.count(9), 20);
            Expect.due(11, "no such ones, none made", x.count(3), 0);
            Expect.due(11, "the next is the first", x.rules(days[1], days[0], 6), 0);
        }
        int[] alone = {0, 1, 50, 99999};
        for (int day : alone) {
            StoneVault x = new StoneVault();
            x.asker(0, 0);
            x.stone(0, 0, 5, 0, false);
            Expect.due(11, "one day " + day, Expect.rules(x, day, day, "b(1=1)"), 0);
            x.now(day);
            Expect.due(12, "in FORCE on that DAY", x.lend(0, 0), -2);
            x.now(day + 1);
            Expect.due(12, "not behind it", x.lend(0, 0), day == 99999 ? -2 : 0);
        }
    }

    private static String longText(int length) {
        StringBuilder text = new StringBuilder("b(f=1");
        while (text.length() < length - 1) {
            text.append("+1");
        }
        text.setLength(length - 1);
        if (text.charAt(length - 2) == '+') {
            text.setCharAt(length - 2, '1');
            text.setCharAt(length - 3, '1');
        }
        return text.append(')').toString();
    }

    private static void rightTexts() {
        String[] texts = {"b(f=1)", "d0(f=1)", "d999999(f=1)", "t0(f=1)", "t1000(f=1)", "x0.0", "x19.11", "x000019.000011",
            "b(f<1|h>2&k=3)", "b(!f=1)", "b(!!(f=1))", "b((f=1|f=2)&!(h=3))", "b([f]=[[1]+2]*3)",
            "b(f+h-k*w/m%l=a-s+d)", "b(999999=000000)", "d1(f=1);t1(f=1);b(f=1);x1.1"};
        for (String text : texts) {
            Expect.due(11, text, Expect.rules(new StoneVault(), text), 0);
        }
    }

    private static void fault(String text, int number, int place) {
        StoneVault x = new StoneVault();
        Expect.due(11, text, Expect.rules(x, text), -1000 * number - place);
        Expect.due(11, text + " makes none", x.count(3), 0);
    }

    private static void faultsOfPlace() {
        fault(" b(f=1)", 1, 0);
        fault("c(f=1)", 1, 0);
        fault("b", 1, 1);
        fault("b1(f=1)", 1, 1);
        fault("b(", 1, 2);
        fault("b()", 1, 2);
        fault("b(f)", 1, 3);
        fault("b(f=)", 1, 4);
        fault("b(f=1", 1, 5);
        fault("b(f=1))", 1, 6);
        fault("b(f=1);", 1, 7);
        fault("b(f=1);;", 1, 7);
        fault("b(f=1)b(f=1)", 1, 6);
        fault("b(f=1=1)", 1, 5);
        fault("b(f==1)", 1, 4);
        fault("b((f)=1)", 1, 4);
        fault("b(-1=f)", 1, 2);
        fault("b(f=1&)", 1, 6);
        fault("b(f=1||f=1)", 1, 6);
        fault("b(f=[1)", 1, 6);
        fault("b(f=1])", 1, 5);
        fault("b(f=z)", 1, 4);
        fault("b(f=" + (char) 200 + ")", 1, 4);
        fault("b(f=" + (char) 0 + ")", 1, 4);
        fault("b(f= 1)", 1, 4);
        fault("b(f!=1)", 1, 3);
        fault("b(f=!1)", 1, 4);
        fault("b(f=(1))", 1, 4);
        fault("b(ff=1)", 1, 3);
        fault("b(1f=1)", 1, 3);
        fault("d(f=1)", 1, 1);
        fault("d1", 1, 2);
        fault("t5", 1, 2);
        fault("x", 1, 1);
        fault("x1", 1, 2);
        fault("x1.", 1, 3);
        fault("x1,1", 1, 2);
        fault("x1.1(f=1)", 1, 4);
        fault("x.1", 1, 1);
        fault("B(f=1)", 1, 0);
    }

    private static void faultsOfDigits() {
        fault("b(1234567=f)", 2, 8);
        fault("b(0000000=f)", 2, 8);
        fault("b(f=12345678)", 2, 10);
        fault("d1234567(f=1)", 2, 7);
        fault("t1234567(f=1)", 2, 7);
        fault("t0000001(f=1)", 2, 7);
        fault("x1234567.0", 2, 7);
        fault("x0.0000000", 2, 9);
    }

    private static void faultsOfNumbers() {
        fault("t1001(f=1)", 3, 1);
        fault("t999999(f=1)", 3, 1);
        fault("t1001", 3, 1);
        fault("t1001x", 3, 1);
        fault("x20.0", 3, 1);
        fault("x20", 3, 1);
        fault("x19.12", 3, 4);
        fault("x0.12;q", 3, 3);
        fault("b(f=1);x0.99", 3, 10);
        fault("q;x20.0", 1, 0);
    }

    private static void faultsOfClauses() {
        String twelve = "x0.0;x0.0;x0.0;x0.0;x0.0;x0.0;x0.0;x0.0;x0.0;x0.0;x0.0;x0.0";
        StoneVault x = new StoneVault();
        Expect.due(11, "twelve clauses", Expect.rules(x, twelve), 0);
        Expect.due(11, "twelve clauses", x.count(20), 12);
        fault(twelve + ";x0.0", 4, 60);
        fault(twelve + ";b", 4, 60);
        fault(twelve + ";d", 4, 60);
        fault(twelve + ";t9999999", 4, 60);
        fault(twelve + ";q", 1, 60);
        fault(twelve + ";", 1, 60);
        fault(twelve + "x", 1, 59);
    }

    private static void faultsOfDepth() {
        Expect.due(11, "six (", Expect.rules(new StoneVault(), "b((((((f=1))))))"), 0);
        fault("b(((((((f=1)))))))", 5, 7);
        Expect.due(11, "six !", Expect.rules(new StoneVault(), "b(!!!!!f=1)"), 0);
        fault("b(!!!!!!f=1)", 5, 7);
        Expect.due(11, "six [", Expect.rules(new StoneVault(), "b([[[[[f]]]]]=1)"), 0);
        fault("b([[[[[[f]]]]]]=1)", 5, 7);
        fault("b(!!!!!f=[1])", 5, 9);
        fault("b(!(!([[f]=1)))", 5, 7);
        Expect.due(11, "a ! is closed with its piece",
                Expect.rules(new StoneVault(), "b(!!!!!f=1&!!!!!f=1|!(!(f=[1])))"), 0);
        Expect.due(11, "closed ones", Expect.rules(new StoneVault(), "b([1]+[1]+[1]+[1]+[1]+[1]+[1]=[1])"), 0);
        fault("b(!!!!!!", 5, 7);
        fault("b(f=1(((((((", 1, 5);
    }

    private static StoneVault withOneStone() {
        StoneVault x = new StoneVault();
        x.asker(3, 5);
        x.stone(2, 0, 1000, 0, false);
        return x;
    }

    private static void lendRefusals() {
        StoneVault x = withOneStone();
        x.stone(2, 0, 10, 0, true);
        x.stone(2, 0, 10, 0, false);
        x.give(2, 0, 0);
        Expect.rules(x, "b(1=1)");
        Expect.due(12, "no piece", x.lend(3, 0), -1);
        Expect.due(12, "no piece", x.lend(-1, 0), -1);
        Expect.due(12, "no asker", x.lend(0, 1), -1);
        Expect.due(12, "no asker", x.lend(0, -1), -1);
        Expect.due(12, "sealed", x.lend(1, 0), -1);
        Expect.due(12, "given", x.lend(2, 0), -1);
        Expect.due(12, "barred", x.lend(0, 0), -2);
        Expect.due(12, "unchanged", x.piece(0, 4), 0);
        Expect.due(12, "no loan", x.count(4), 0);
        StoneVault y = withOneStone();
        for (int i = 0; i < 100; i++) {
            Expect.due(12, "number", y.lend(0, 0), i);
            Expect.due(12, "lent is in no cabinet", y.lend(0, 0), -1);
            y.back(i, 1000, 0, 0, 0);
        }
        Expect.due(12, "full", y.lend(0, 0), -1);
        Expect.due(12, "full, it stays in its CABINET", y.piece(0, 4), 0);
        Expect.due(12, "full, no more", y.count(4), 100);
        Expect.rules(y, "b(1=1)");
        Expect.due(12, "full, before a b", y.lend(0, 0), -1);
        StoneVault z = withOneStone();
        z.trial(0, 1000, 0);
        Expect.due(12, "done", z.lend(0, 0), -1);
    }

    private static void lastDays() {
        int[][] edges = {{0, 30}, {99968, 99998}, {99969, 99999}, {99970, 99999}, {99999, 99999}};
        for (int[] days : edges) {
            StoneVault x = withOneStone();
            x.now(days[0]);
            x.lend(0, 0);
            Expect.due(12, "the first DAY " + days[0], x.loan(0, 2), days[0]);
            Expect.due(12, "the last DAY from " + days[0], x.loan(0, 3), days[1]);
            x.now(99999);
            Expect.due(14, "late on the last of all DAYS", x.loan(0, 6), days[1] < 99999 ? 1 : 0);
        }
    }

    /** Whether the clause's C holds for the loan of piece 0 to asker 0: it is barred then. */
    private static void holds(int promise, StoneVault x, String c, boolean want) {
        int first = x.count(3);
        Expect.due(promise, "text " + c, Expect.rules(x, "b(" + c + ")"), first);
        int answer = x.lend(0, 0);
        Expect.due(promise, c, answer == -2, want);
        if (answer >= 0) {
            x.back(answer, x.piece(0, 2), 0, 0, 0);
        }
    }

    private static void holds(String c, boolean want) {
        holds(12, withOneStone(), c, want);
    }

    private static StoneVault withHistory() {
        StoneVault x = new StoneVault();
        x.asker(3, 5);
        x.asker(4, 6);
        x.stone(2, 0, 1000, 0, false);
        x.stone(2, 0, 300, 9, true);
        x.stone(1, 0, 7, 0, false);
        x.stone(2, 0, 20, 0, false);
        x.stone(2, 0, 50, 0, false);
        x.stone(2, 0, 60, 0, false);
        x.trial(0, 1, 0x8111);
        x.lend(3, 0);
        x.lend(4, 0);
        x.back(1, 40, 3, 0, 0);
        x.lend(5, 1);
        x.back(2, 30, 0, 0, 0);
        x.now(77);
        return x;
    }

    private static void letters() {
        String[] right = {"f=5", "h=3", "k=2", "w=999", "m=4", "l=1369", "a=1", "s=7", "d=77"};
        for (String c : right) {
            holds(12, withHistory(), c, true);
            holds(12, withHistory(), c + "1", false);
        }
    }

    private static void reckoning() {
        holds("2+3*4=14", true);
        holds("[2+3]*4=20", true);
        holds("10-3-2=5", true);
        holds("100/10/5=2", true);
        holds("100/10*5=50", true);
        holds("17%10%4=3", true);
        holds("7%4*2=6", true);
        holds("[0-7]/2=0-3", true);
        holds("[0-7]%4=0-3", true);
        holds("1<2", true);
        holds("2<2", false);
        holds("3>2", true);
        holds("2>2", false);
        holds("2=2", true);
        holds("!2=2", false);
        holds("!!2=2", true);
        holds("999999*999999*999999%1000=999", true);
        holds("999999*999999*999999*999999<0", 999999L * 999999 * 999999 * 999999 < 0);
        holds("999999*999999*999999*999999%1000=0-" + -(999999L * 999999 * 999999 * 999999 % 1000), true);
        String least = "512*512*512*512*512*512*512";
        holds(least + "<0", true);
        holds(least + "-1>0", true);
        holds(least + "=[0-1]*" + least, true);
        holds(least + "/[0-1]=" + least, true);
        holds(least + "%[0-1]=0", true);
        holds(least + "*2=0", true);
        holds("1/[" + least + "*2]=0", false);
        holds("!1/[" + least + "*2]=0", false);
        holds("[0-1]/2=0", true);
        holds("7%[0-4]=3", true);
        holds("1=2|3=3&4=4", true);
        holds("1=1|3=3&4=5", true);
        holds("(1=1|3=3)&4=5", false);
    }

    private static void askedFromTheLeft() {
        holds("1/0=0", false);
        holds("!1/0=0", false);
        holds("!1=0/0", false);
        holds("!0>f-[7%[f-5]]", false);
        holds("!(1%0=0)", false);
        holds("1=1|1/0=0", true);
        holds("1/0=0|1=1", false);
        holds("1=2&1/0=0", false);
        holds("!(1=2&1/0=0)", true);
        holds("1=2&1/0=0|1=1", true);
        holds("1=1&1/0=0|1=1", false);
        holds("(1=1|1/0=0)&1=1", true);
        holds("(1=1|1/0=0)&1%[f-5]=1|1=1", false);
        holds("0*[1/0]=0", false);
        holds("1=1|(1=1&1/0=0)", true);
        StoneVault x = withOneStone();
        Expect.rules(x, "b(1/0=0);d9(1=1);d3(1/0=0|1=1);d4(1=1)");
        Expect.due(12, "only the whole C of one clause", x.lend(0, 0), 0);
        Expect.due(12, "the last that holds", x.loan(0, 3), 4);
    }

    private static int lastDay(StoneVault x) {
        int i = x.lend(0, 0);
        int last = x.loan(i, 3);
        x.back(i, x.piece(0, 2), 0, 0, 0);
        return last;
    }

    private static void numbersOfRules() {
        StoneVault x = withOneStone();
        Expect.due(12, "without rules", lastDay(x), 30);
        Expect.rules(x, 0, 9, "d5(f=5);d6(f=5);d7(f=6)");
        Expect.due(12, "the last that holds", lastDay(x), 6);
        Expect.rules(x, 0, 3, "d8(f=5);d9(f=6)");
        Expect.due(12, "the highest", lastDay(x), 8);
        Expect.rules(x, 1, 1, "d1(f=5)");
        Expect.due(12, "not yet in force", lastDay(x), 8);
        Expect.rules(x, 0, 99999, "d2(f=6)");
        Expect.due(12, "one that does not hold", lastDay(x), 8);
        x.now(1);
        Expect.due(12, "in force from a day to it", lastDay(x), 2);
        x.now(3);
        Expect.due(12, "the last day of force", lastDay(x), 11);
        x.now(4);
        Expect.due(12, "out of force", lastDay(x), 10);
        x.now(10);
        Expect.due(12, "all out of force", lastDay(x), 40);
        Expect.rules(x, "d0(1=1)");
        Expect.due(12, "no days", lastDay(x), 10);
        Expect.rules(x, "d999999(1=1)");
        Expect.due(12, "99999 at most", lastDay(x), 99999);
    }

    private static void strikes() {
        StoneVault x = withOneStone();
        Expect.rules(x, "b(1=1);d3(1=1)");
        Expect.due(12, "barred", x.lend(0, 0), -2);
        Expect.rules(x, 0, 4, "x0.0;x0.11;x19.0;x1.0;x1.2;d5(1=1)");
        Expect.due(12, "struck", lastDay(x), 5);
        Expect.rules(x, 0, 3, "x1.0");
        Expect.due(12, "the striker is struck", x.lend(0, 0), -2);
        Expect.rules(x, 0, 2, "x2.0;x1.5");
        Expect.due(12, "the striker's striker is struck", lastDay(x), 3);
        x.now(3);
        Expect.due(12, "out of force", x.lend(0, 0), -2);
        x.now(4);
        Expect.due(12, "the first striker counts again", lastDay(x), 9);
        x.now(5);
        Expect.due(12, "no striker in force", x.lend(0, 0), -2);
        StoneVault y = withOneStone();
        Expect.rules(y, "x0.1;b(1=1);x1.0");
        Expect.rules(y, "d3(1=1)");
        Expect.due(12, "not its own, not a higher one's", y.lend(0, 0), -2);
    }

    private static void keeping() {
        StoneVault x = new StoneVault();
        x.asker(0, 0);
        x.stone(0, 0, 600, 0, false);
        x.stone(0, 0, 300, 0, true);
        x.stone(0, 0, 100, 0, false);
        x.stone(1, 0, 100, 0, false);
        Expect.rules(x, "t401(k=1);t400(k=0)");
        Expect.due(12, "just enough is kept", x.lend(0, 0), 0);
        Expect.due(12, "then too little", x.lend(2, 0), -3);
        Expect.due(12, "of another kind", x.lend(3, 0), -3);
        x.back(0, 600, 0, 1, 0);
        Expect.due(12, "what has met something may go", x.lend(0, 0), 1);
        Expect.due(12, "what has met nothing may not", x.lend(2, 0), -3);
        Expect.rules(x, "b(k=0)");
        Expect.due(12, "a b before it", x.lend(2, 0), -2);
        Expect.rules(x, "x1.0;t300(1=1);t1000(1=2)");
        Expect.due(12, "less is to be kept", x.lend(2, 0), 2);
        StoneVault z = new StoneVault();
        z.asker(0, 0);
        z.stone(0, 0, 1001, 9, false);
        z.stone(0, 0, 1999, 9, false);
        z.stone(0, 0, 1000, 9, false);
        z.trial(2, 0, 1);
        Expect.rules(z, "t500(1=1)");
        Expect.due(12, "a little too little, what has met something is not kept", z.lend(0, 0), -3);
        Expect.rules(z, "t499(1=1)");
        Expect.due(12, "enough", z.lend(0, 0), 0);
        StoneVault y = withOneStone();
        Expect.rules(y, "t1(1=1)");
        Expect.due(12, "the only one", y.lend(0, 0), -3);
        Expect.rules(y, "t0(1=1)");
        Expect.due(12, "nothing to be kept", y.lend(0, 0), 0);
    }

    private static void backs() {
        StoneVault x = withOneStone();
        x.gas(7, 4);
        x.lend(0, 0);
        x.now(5);
        Expect.due(13, "no loan", x.back(1, 1000, 0, 0, 0), -1);
        Expect.due(13, "no loan", x.back(-1, 1000, 0, 0, 0), -1);
        Expect.due(13, "above what it had", x.back(0, 1001, 0, 0, 0), -1);
        Expect.due(13, "below 0", x.back(0, -1, 0, 0, 0), -1);
        Expect.due(13, "eaten below 0", x.back(0, 900, -1, 0, 0), -1);
        Expect.due(13, "eaten above the difference", x.back(0, 900, 101, 0, 0), -1);
        Expect.due(13, "17 bits", x.back(0, 900, 0, 65536, 0), -1);
        Expect.due(13, "bits below 0", x.back(0, 900, 0, -1, 0), -1);
        Expect.due(13, "no cabinet", x.back(0, 900, 0, 0, 10), -1);
        Expect.due(13, "no cabinet", x.back(0, 900, 0, 0, -1), -1);
        Expect.due(13, "still lent", x.piece(0, 4), 10);
        Expect.due(13, "missing", x.back(0, 900, 30, 8, 7), 70);
        Expect.due(13, "the weight then", x.piece(0, 2), 900);
        Expect.due(13, "the bits without the gas", x.piece(0, 3), 8);
        Expect.due(13, "the cabinet", x.piece(0, 4), 7);
        Expect.due(13, "eaten", x.sum(2, 5), 30);
        Expect.due(13, "missing", x.sum(2, 6), 70);
        Expect.due(13, "it is back", x.back(0, 900, 0, 0, 7), -1);
        x.lend(0, 0);
        Expect.due(13, "all gone", x.back(1, 0, 0, 1, 7), 900);
        Expect.due(13, "done", x.piece(0, 4), 12);
        Expect.due(13, "met", x.piece(0, 3), 9);
        Expect.due(13, "missing in all", x.sum(2, 6), 970);
    }

    private static void loans() {
        StoneVault x = withOneStone();
        x.asker(1, 1);
        x.stone(0, 0, 5, 0, false);
        x.now(3);
        x.lend(1, 1);
        int[] want = {1, 1, 3, 33, -1, 0, 0};
        for (int what = 0; what <= 6; what++) {
            Expect.due(14, "what " + what, x.loan(0, what), want[what]);
        }
        Expect.due(14, "what 7", x.loan(0, 7), -1);
        Expect.due(14, "what -1", x.loan(0, -1), -1);
        Expect.due(14, "no loan", x.loan(1, 0), -1);
        Expect.due(14, "no loan", x.loan(-1, 0), -1);
        x.now(33);
        Expect.due(14, "the last day", x.loan(0, 6), 0);
        x.now(34);
        Expect.due(14, "late", x.loan(0, 6), 1);
        x.back(0, 2, 1, 0, 0);
        Expect.due(14, "back is not late", x.loan(0, 6), 0);
        Expect.due(14, "the day of it", x.loan(0, 4), 34);
        Expect.due(14, "missing", x.loan(0, 5), 2);
    }
}
