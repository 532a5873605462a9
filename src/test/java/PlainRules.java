import java.util.ArrayList;
import java.util.List;
import java.util.Map;

/** A text of RULES, read into what it says; a FAULT is thrown where it is met. */
final class PlainRules {
    static final class Fault extends RuntimeException {
        private static final long serialVersionUID = 1L;
        final int number;
        final int place;

        Fault(int number, int place) {
            this.number = number;
            this.place = place;
        }
    }

    private static final class Refused extends RuntimeException {
        private static final long serialVersionUID = 1L;
    }

    private interface Reckoned {
        long of(Map<Character, Long> letters);
    }

    private interface Asked {
        boolean of(Map<Character, Long> letters);
    }

    static final class Clause {
        char letter;
        int first;
        int second;
        Asked asked;

        boolean holds(Map<Character, Long> letters) {
            try {
                return asked.of(letters);
            } catch (Refused refused) {
                return false;
            }
        }
    }

    private final String text;
    private int at;
    private int open;

    private PlainRules(String text) {
        this.text = text;
    }

    static List<Clause> read(String text) {
        PlainRules reading = new PlainRules(text);
        List<Clause> clauses = new ArrayList<>();
        do {
            if ("bdtx".indexOf(reading.sign()) < 0) {
                throw new Fault(1, reading.at);
            }
            if (clauses.size() == 12) {
                throw new Fault(4, reading.at);
            }
            clauses.add(reading.clause());
        } while (reading.goesOn(';'));
        if (reading.at < text.length()) {
            throw new Fault(1, reading.at);
        }
        return clauses;
    }

    /** The sign that comes; at the end one that can stand nowhere. */
    private char sign() {
        return at < text.length() ? text.charAt(at) : (char) 1000;
    }

    private boolean goesOn(char wanted) {
        if (sign() == wanted) {
            at++;
            return true;
        }
        return false;
    }

    private void need(char wanted) {
        if (!goesOn(wanted)) {
            throw new Fault(1, at);
        }
    }

    private Clause clause() {
        Clause clause = new Clause();
        clause.letter = sign();
        at++;
        if (clause.letter == 'x') {
            clause.first = told(19);
            need('.');
            clause.second = told(11);
            return clause;
        }
        if (clause.letter != 'b') {
            clause.first = told(clause.letter == 't' ? 1000 : 999999);
        }
        if (sign() != '(') {
            throw new Fault(1, at);
        }
        clause.asked = inside();
        return clause;
    }

    private int told(int most) {
        int first = at;
        int told = digits();
        if (told > most) {
            throw new Fault(3, first);
        }
        return told;
    }

    private int digits() {
        int first = at;
        while (sign() >= '0' && sign() <= '9') {
            if (at - first == 6) {
                throw new Fault(2, at);
            }
            at++;
        }
        if (at == first) {
            throw new Fault(1, at);
        }
        return Integer.parseInt(text.substring(first, at));
    }

    private void goIn() {
        open++;
        if (open > 6) {
            throw new Fault(5, at);
        }
        at++;
    }

    private Asked inside() {
        goIn();
        Asked asked = parts();
        need(')');
        open--;
        return asked;
    }

    private Asked parts() {
        Asked part = part();
        if (!goesOn('|')) {
            return part;
        }
        Asked others = parts();
        return letters -> part.of(letters) || others.of(letters);
    }

    private Asked part() {
        Asked piece = piece();
        if (!goesOn('&')) {
            return piece;
        }
        Asked others = part();
        return letters -> piece.of(letters) && others.of(letters);
    }

    private Asked piece() {
        if (sign() == '(') {
            return inside();
        }
        if (sign() == '!') {
            goIn();
            Asked piece = piece();
            open--;
            return letters -> !piece.of(letters);
        }
        Reckoned left = expression();
        char sign = sign();
        if (sign != '<' && sign != '>' && sign != '=') {
            throw new Fault(1, at);
        }
        at++;
        Reckoned right = expression();
        return letters -> {
            long order = Long.compare(left.of(letters), right.of(letters));
            return sign == '<' ? order < 0 : sign == '>' ? order > 0 : order == 0;
        };
    }

    private Reckoned expression() {
        Reckoned value = term();
        while (sign() == '+' || sign() == '-') {
            boolean plus = sign() == '+';
            at++;
            Reckoned before = value;
            Reckoned term = term();
            value = letters -> plus ? before.of(letters) + term.of(letters) : before.of(letters) - term.of(letters);
        }
        return value;
    }

    private Reckoned term() {
        Reckoned value = factor();
        while (sign() == '*' || sign() == '/' || sign() == '%') {
            char sign = sign();
            at++;
            Reckoned before = value;
            Reckoned factor = factor();
            value = letters -> reckon(before.of(letters), sign, factor.of(letters));
        }
        return value;
    }

    private static long reckon(long before, char sign, long factor) {
        if (sign == '*') {
            return before * factor;
        }
        if (factor == 0) {
            throw new Refused();
        }
        return sign == '/' ? before / factor : before % factor;
    }

    private Reckoned factor() {
        if (sign() == '[') {
            goIn();
            Reckoned value = expression();
            need(']');
            open--;
            return value;
        }
        char sign = sign();
        if (sign >= '0' && sign <= '9') {
            long number = digits();
            return letters -> number;
        }
        if ("fhkwmlasd".indexOf(sign) < 0) {
            throw new Fault(1, at);
        }
        at++;
        return letters -> letters.get(sign);
    }
}
