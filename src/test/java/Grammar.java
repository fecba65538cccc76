/** Both languages read straight from their bytes, for FaultTest to hold FrontFour against: 0 or the FAULT. */
final class Grammar {
    /** The first FAULT ends the reading. */
    private static final class Fault extends RuntimeException {
        private static final long serialVersionUID = 1L;
        final int number;

        Fault(int place, int kind) {
            super(null, null, false, false);
            number = 1 + 8 * place + kind;
        }
    }

    private final String text;
    private int at;
    private int stops;
    private int riders;
    private int coaches;
    private int counted;
    private String once = "";

    private Grammar(String text) {
        this.text = text;
    }

    static int ofLine(String text) {
        try {
            new Grammar(text).line();
            return 0;
        } catch (Fault fault) {
            return fault.number;
        }
    }

    static int ofRule(String text) {
        try {
            new Grammar(text).rule();
            return 0;
        } catch (Fault fault) {
            return fault.number;
        }
    }

    private char next() {
        while (at < text.length() && text.charAt(at) == ' ') {
            at++;
        }
        return at < text.length() ? text.charAt(at) : (char) 0xffff;
    }

    private boolean ended() {
        return next() == (char) 0xffff;
    }

    private String letters() {
        next();
        int to = at;
        while (to < text.length() && text.charAt(to) >= 'a' && text.charAt(to) <= 'z') {
            to++;
        }
        return text.substring(at, to);
    }

    private String digits() {
        next();
        int to = at;
        while (to < text.length() && text.charAt(to) >= '0' && text.charAt(to) <= '9') {
            to++;
        }
        return text.substring(at, to);
    }

    private int number(int least, int most) {
        String digits = digits();
        if (digits.isEmpty()) {
            throw new Fault(at, 0);
        }
        if (digits.length() > 5 || Integer.parseInt(digits) < least || Integer.parseInt(digits) > most) {
            throw new Fault(at, 1);
        }
        at += digits.length();
        return Integer.parseInt(digits);
    }

    private void line() {
        int clauses = 0;
        do {
            if (clauses > 0) {
                at++;
            }
            lineClause(++clauses);
        } while (next() == ';');
        if (!ended() || stops == 0) {
            throw new Fault(at, 0);
        }
    }

    private void lineClause(int n) {
        String word = letters();
        if (!" train dest stop parting shut trolley seats rider told platform ".contains(" " + word + " ")
                || word.isEmpty()) {
            throw new Fault(at, 0);
        }
        boolean first = word.equals("train") == (n == 1);
        boolean again = "train dest parting platform".contains(word) && once.contains(word);
        boolean seventh = word.equals("stop") && stops == 6 || word.equals("rider") && riders == 6;
        if (n > 40 || !first || again || seventh) {
            throw new Fault(at, 4);
        }
        once += word + " ";
        at += word.length();
        if (word.equals("train")) {
            coaches = number(2, 8);
        } else if (word.equals("dest")) {
            for (int c = 0; c < coaches; c++) {
                number(0, 3);
            }
        } else if (word.equals("stop")) {
            number(1, 99);
            number(1, 60);
            stops++;
        } else if (word.equals("rider")) {
            number(0, coaches - 1);
            number(0, 3);
            number(1, 20);
            number(0, 3);
            riders++;
        } else {
            short2(word);
        }
    }

    private void short2(String word) {
        switch (word) {
            case "parting":
                number(0, stops - 1);
                break;
            case "shut":
                number(0, coaches - 2);
                break;
            case "trolley":
                number(0, coaches - 2);
                number(1, 999);
                break;
            case "seats":
                number(0, coaches - 1);
                number(0, 9);
                break;
            case "told":
                number(0, riders - 1);
                number(0, 999);
                break;
            default:
                number(1, 20);
                break;
        }
    }

    private void rule() {
        int clauses = 0;
        do {
            if (clauses > 0) {
                at++;
            }
            clauses++;
            String word = letters();
            if (!word.equals("inside") && !word.equals("outside") && !word.equals("stay")) {
                throw new Fault(at, 0);
            }
            if (clauses > 12) {
                throw new Fault(at, 4);
            }
            at += word.length();
            if (!word.equals("stay")) {
                sum();
            }
            if (letters().equals("if")) {
                at += 2;
                test(0);
            }
        } while (next() == ';');
        if (!ended()) {
            throw new Fault(at, 0);
        }
    }

    private void test(int depth) {
        part(depth);
        while (letters().equals("or")) {
            at += 2;
            part(depth);
        }
    }

    private void part(int depth) {
        fact(depth);
        while (letters().equals("and")) {
            at += 3;
            fact(depth);
        }
    }

    private void fact(int depth) {
        boolean opens = next() == '[';
        if (opens || letters().equals("not")) {
            if (depth == 10) {
                throw new Fault(at, 2);
            }
            at += opens ? 1 : 3;
            if (!opens) {
                fact(depth + 1);
                return;
            }
            test(depth + 1);
            if (next() != ']') {
                throw new Fault(at, 0);
            }
            at++;
            return;
        }
        sum();
        char sign = next();
        if (sign != '<' && sign != '>' && sign != '=') {
            throw new Fault(at, 0);
        }
        counts();
        at++;
        if (sign != '=' && at < text.length() && text.charAt(at) == '=') {
            at++;
        }
        sum();
    }

    private void counts() {
        counted++;
        if (counted > 60) {
            throw new Fault(at, 3);
        }
    }

    private void sum() {
        term();
        while (next() == '+' || next() == '-') {
            at++;
            term();
        }
    }

    private void term() {
        value();
        while (next() == '*' || next() == '/' || next() == '%') {
            at++;
            value();
        }
    }

    private void value() {
        String digits = digits();
        if (!digits.isEmpty()) {
            if (digits.length() > 5) {
                throw new Fault(at, 1);
            }
            counts();
            at += digits.length();
            return;
        }
        String word = letters();
        String words = " rider dest coach second left right near halt loads pace full seats moved ";
        if (word.isEmpty() || !words.contains(" " + word + " ")) {
            throw new Fault(at, 0);
        }
        counts();
        at += word.length();
    }
}
