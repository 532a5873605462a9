import java.util.ArrayList;
import java.util.List;
import java.util.Random;

/** Random texts of rules: right ones against a tree that is asked by itself, changed ones against a machine with a stack. */
public final class RandomRulesTest {
    private static final Random RANDOM = new Random(412);
    private static final String LETTERS = "fhkwmlasd";

    public static void main(String[] args) {
        for (int i = 0; i < 4000; i++) {
            rightText();
            changedText();
        }
        for (int i = 0; i < 600; i++) {
            manyRules();
        }
        Expect.end();
    }

    private static int upTo(int n) {
        return RANDOM.nextInt(n + 1);
    }

    private static final class DividedByZero extends RuntimeException {
        private static final long serialVersionUID = 1L;
    }

    /** A node of a C or an E: a sign with its parts, or a number or a letter. */
    private static final class Node {
        final char sign;
        final long number;
        final Node left;
        final Node right;

        Node(char sign, long number, Node left, Node right) {
            this.sign = sign;
            this.number = number;
            this.left = left;
            this.right = right;
        }

        String text() {
            switch (sign) {
                case '#': return Long.toString(number);
                case 'v': return String.valueOf(LETTERS.charAt((int) number));
                case '[': return "[" + left.text() + "]";
                case '(': return "(" + left.text() + ")";
                case '!': return "!" + left.text();
                default: return left.text() + sign + right.text();
            }
        }

        boolean holds(long[] values) {
            switch (sign) {
                case '(': return left.holds(values);
                case '!': return !left.holds(values);
                case '|': return left.holds(values) || right.holds(values);
                case '&': return left.holds(values) && right.holds(values);
                case '<': return left.value(values) < right.value(values);
                case '>': return left.value(values) > right.value(values);
                default: return left.value(values) == right.value(values);
            }
        }

        long value(long[] values) {
            switch (sign) {
                case '#': return number;
                case 'v': return values[(int) number];
                case '[': return left.value(values);
                default: break;
            }
            long a = left.value(values);
            long b = right.value(values);
            switch (sign) {
                case '+': return a + b;
                case '-': return a - b;
                case '*': return a * b;
                default: break;
            }
            if (b == 0) {
                throw new DividedByZero();
            }
            return sign == '/' ? a / b : a % b;
        }
    }

    private static Node chain(String signs, int more, int kind, int open) {
        Node node = part(kind, open);
        for (int i = upTo(more); i > 0; i--) {
            node = new Node(signs.charAt(upTo(signs.length() - 1)), 0, node, part(kind, open));
        }
        return node;
    }

    private static Node part(int kind, int open) {
        switch (kind) {
            case 0: return chain("&", upTo(2), 1, open);
            case 1: return single(open);
            case 2: return chain("*/%", upTo(1), 3, open);
            default: return factor(open);
        }
    }

    private static Node condition(int open) {
        return chain("|", upTo(2), 0, open);
    }

    private static Node single(int open) {
        int choice = upTo(9);
        if (open < 6 && choice == 0) {
            return new Node('!', 0, single(open + 1), null);
        }
        if (open < 6 && choice == 1) {
            return new Node('(', 0, condition(open + 1), null);
        }
        return new Node("<>=".charAt(upTo(2)), 0, sum(open), sum(open));
    }

    private static Node sum(int open) {
        return chain("+-", upTo(1), 2, open);
    }

    private static Node factor(int open) {
        int choice = upTo(9);
        if (open < 6 && choice == 0) {
            return new Node('[', 0, sum(open + 1), null);
        }
        return choice < 5 ? new Node('#', upTo(3) == 0 ? upTo(999999) : upTo(4), null, null) : new Node('v', upTo(8), null, null);
    }

    private static boolean holds(Node node, long[] values) {
        try {
            return node.holds(values);
        } catch (DividedByZero e) {
            return false;
        }
    }

    private static long[] values(StoneVault x, int house, int field) {
        int out = 0;
        int missing = 0;
        for (int i = 0; i < x.count(4); i++) {
            out += x.loan(i, 4) == -1 ? 1 : 0;
            missing += x.loan(i, 5);
        }
        int kind = x.piece(0, 0);
        return new long[] {field, house, kind, x.piece(0, 2), Integer.bitCount(x.piece(0, 3)), x.sum(kind, 1), out, missing, x.count(0)};
    }

    private static void rightText() {
        Node node = condition(1);
        String text = "b(" + node.text() + ")";
        if (text.length() > 160) {
            return;
        }
        int house = upTo(9);
        int field = upTo(7);
        StoneVault x = new StoneVault();
        x.asker(house, field);
        x.stone(upTo(7), 0, 1 + upTo(5), 0, false);
        x.trial(0, 0, upTo(1) * upTo(65535));
        for (int i = 1; i < 4; i++) {
            x.stone(upTo(2), 0, 2, 0, upTo(1) == 0);
            x.lend(i, 0);
        }
        x.back(0, 1, 0, 0, 0);
        x.now(upTo(3));
        boolean want = holds(node, values(x, house, field));
        Expect.due(11, text, Expect.rules(x, text), 0);
        Expect.due(12, text, x.lend(0, 0) == -2, want);
    }

    /** Several RULES with d and t and x, all asked by trees. */
    private static void manyRules() {
        int house = upTo(9);
        int field = upTo(7);
        StoneVault x = new StoneVault();
        x.asker(house, field);
        x.stone(0, 0, 10, 0, false);
        x.stone(0, 0, 10, 0, false);
        x.now(upTo(3));
        long[] values = values(x, house, field);
        int n = 1 + upTo(5);
        List<List<Object[]>> all = new ArrayList<>();
        List<Boolean> force = new ArrayList<>();
        for (int r = 0; r < n; r++) {
            List<Object[]> clauses = new ArrayList<>();
            StringBuilder text = new StringBuilder();
            for (int j = 1 + upTo(4); j > 0; j--) {
                Node node = new Node("<>=".charAt(upTo(2)), 0, factor(5), factor(5));
                char letter = "bdtxx".charAt(upTo(4));
                int first = letter == 'x' ? upTo(n) : letter == 't' ? upTo(1000) : upTo(60);
                int second = upTo(5);
                clauses.add(new Object[] {letter, first, second, node});
                text.append(text.length() == 0 ? "" : ";").append(letter);
                text.append(letter == 'b' ? "" : "" + first);
                text.append(letter == 'x' ? "." + second : "(" + (letter == 'b' ? "d=9&" : "") + node.text() + ")");
            }
            int from = upTo(2);
            int to = from + upTo(3);
            force.add(from <= x.count(0) && x.count(0) <= to);
            all.add(clauses);
            Expect.due(11, text.toString(), Expect.rules(x, from, to, text.toString()), r);
        }
        int days = -1;
        int thousandths = -1;
        boolean[][] struck = new boolean[21][12];
        for (int r = n - 1; r >= 0; r--) {
            int ownDays = -1;
            int ownThousandths = -1;
            for (int j = 0; force.get(r) && j < all.get(r).size(); j++) {
                Object[] clause = all.get(r).get(j);
                char letter = (Character) clause[0];
                int first = (Integer) clause[1];
                boolean counts = !struck[r][j];
                boolean holds = holds((Node) clause[3], values);
                if (counts && letter == 'x' && first < r && force.get(first)) {
                    struck[first][(Integer) clause[2]] = true;
                } else if (counts && holds && letter == 'd') {
                    ownDays = first;
                } else if (counts && holds && letter == 't') {
                    ownThousandths = first;
                }
            }
            days = days < 0 ? ownDays : days;
            thousandths = thousandths < 0 ? ownThousandths : thousandths;
        }
        boolean tooLittle = 10 * 1000 < Math.max(0, thousandths) * 20;
        Expect.due(12, "many rules", x.lend(0, 0), tooLittle ? -3 : 0);
        if (!tooLittle) {
            Expect.due(12, "last day", x.loan(0, 3), x.count(0) + (days < 0 ? 30 : days));
        }
    }

    private static void changedText() {
        StringBuilder text = new StringBuilder();
        for (int clauses = upTo(3) == 0 ? 9 + upTo(5) : 1 + upTo(3); clauses > 0; clauses--) {
            String[] heads = {"b", "d" + upTo(1000000), "t" + upTo(1200), "x" + upTo(22) + "." + upTo(13)};
            int head = upTo(9) == 0 ? upTo(2) : upTo(3);
            text.append(heads[head]);
            if (head < 3) {
                text.append('(').append(upTo(1) == 0 ? "f=1" : condition(1 + upTo(1)).text()).append(')');
            }
            text.append(clauses > 1 ? ";" : "");
        }
        for (int changes = upTo(2); changes > 0 && text.length() > 0; changes--) {
            String signs = "bdtx0123456789()[]!&|<>=+-*/%;. fhkwmlas";
            char sign = signs.charAt(upTo(signs.length() - 1));
            int at = upTo(text.length() - 1);
            switch (upTo(4)) {
                case 0: text.setCharAt(at, sign); break;
                case 1: text.insert(at, sign); break;
                case 2: text.insert(at, "([!".charAt(upTo(2))); break;
                case 3: text.deleteCharAt(at); break;
                default: text.setLength(at);
            }
        }
        if (text.length() == 0 || text.length() > 160) {
            return;
        }
        StoneVault x = new StoneVault();
        Expect.due(11, text.toString(), Expect.rules(x, text.toString()), fault(text.toString()));
    }

    /**
     * States: C a clause's letter; N, I, J digits wanted, n, i, j digits begun; O a ( ; P a piece; F a factor;
     * 0 digits of a factor; V behind a factor; Q behind a piece; Z behind a clause.
     */
    private static int fault(String text) {
        StringBuilder stack = new StringBuilder();
        boolean compared = false;
        char state = 'C';
        char letter = 0;
        int clauses = 0;
        int digits = 0;
        int value = 0;
        int place = 0;
        for (int at = 0; at <= text.length(); at++) {
            char sign = at < text.length() ? text.charAt(at) : (char) 255;
            boolean digit = sign >= '0' && sign <= '9';
            if (state == 'N' || state == 'I' || state == 'J') {
                if (!digit) {
                    return -1000 - at;
                }
                place = at;
                digits = 1;
                value = sign - '0';
                state = Character.toLowerCase(state);
                continue;
            }
            if (state == 'n' || state == 'i' || state == 'j' || state == '0') {
                if (digit && digits == 6) {
                    return -2000 - at;
                }
                if (digit) {
                    digits++;
                    value = 10 * value + sign - '0';
                    continue;
                }
                int most = state == 'n' ? letter == 't' ? 1000 : 999999 : state == 'i' ? 19 : state == 'j' ? 11 : 999999;
                if (value > most) {
                    return -3000 - place;
                }
                if (state == 'i') {
                    if (sign != '.') {
                        return -1000 - at;
                    }
                    state = 'J';
                    continue;
                }
                state = state == 'n' ? 'O' : state == 'j' ? 'Z' : 'V';
            }
            if (state == 'C') {
                if ("bdtx".indexOf(sign) < 0) {
                    return -1000 - at;
                }
                if (clauses == 12) {
                    return -4000 - at;
                }
                clauses++;
                letter = sign;
                state = sign == 'b' ? 'O' : sign == 'x' ? 'I' : 'N';
            } else if (state == 'O') {
                if (sign != '(') {
                    return -1000 - at;
                }
                stack.append('(');
                state = 'P';
            } else if (state == 'P' && (sign == '!' || sign == '(')) {
                if (stack.length() == 6) {
                    return -5000 - at;
                }
                stack.append(sign);
            } else if (state == 'P' || state == 'F') {
                if (state == 'P') {
                    compared = false;
                }
                if (sign == '[') {
                    if (stack.length() == 6) {
                        return -5000 - at;
                    }
                    stack.append('[');
                    state = 'F';
                } else if (digit) {
                    digits = 1;
                    value = 0;
                    state = '0';
                } else if (LETTERS.indexOf(sign) >= 0) {
                    state = 'V';
                } else {
                    return -1000 - at;
                }
            } else if (state == 'V' && "+-*/%".indexOf(sign) >= 0) {
                state = 'F';
            } else if (state == 'V' && stack.length() > 0 && stack.charAt(stack.length() - 1) == '[') {
                if (sign != ']') {
                    return -1000 - at;
                }
                stack.setLength(stack.length() - 1);
            } else if (state == 'V' && !compared) {
                if ("<>=".indexOf(sign) < 0) {
                    return -1000 - at;
                }
                compared = true;
                state = 'F';
            } else if (state == 'V' || state == 'Q') {
                while (stack.length() > 0 && stack.charAt(stack.length() - 1) == '!') {
                    stack.setLength(stack.length() - 1);
                }
                if (sign == '&' || sign == '|') {
                    state = 'P';
                } else if (sign == ')') {
                    stack.setLength(stack.length() - 1);
                    state = stack.length() == 0 ? 'Z' : 'Q';
                } else {
                    return -1000 - at;
                }
            } else if (state == 'Z') {
                if (at == text.length()) {
                    return 0;
                }
                if (sign != ';') {
                    return -1000 - at;
                }
                state = 'C';
            }
        }
        return -99999;
    }
}
