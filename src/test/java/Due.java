/** What the tests share: texts onto the TAPE, and answers held against those that are due. */
final class Due {
    private int wrong;
    private int asked;

    void is(String call, long got, long want) {
        asked++;
        if (got != want) {
            wrong++;
            System.out.println(call + " answered " + got + ", due is " + want);
        }
    }

    void is(String call, boolean got, boolean want) {
        is(call, got ? 1 : 0, want ? 1 : 0);
    }

    /** Prints how many were right, and ends with exit code 1 if one was not. */
    void close() {
        System.out.println(asked + " answers, " + wrong + " not as due");
        if (wrong != 0 || asked == 0) {
            System.exit(1);
        }
    }

    /** A text behind the TAPE, which must be empty; bytes beyond it are cut off. */
    static void tell(FrontFour x, String text) {
        for (int from = 0; from < text.length(); from += 20) {
            x.feed(four(text, from), four(text, from + 4), four(text, from + 8), four(text, from + 12),
                    four(text, from + 16));
        }
        x.end(text.length());
    }

    private static int four(String text, int from) {
        int number = 0;
        for (int i = from; i < from + 4; i++) {
            number = number << 8 | (i < text.length() ? text.charAt(i) & 255 : 0);
        }
        return number;
    }

    static int line(FrontFour x, String text) {
        tell(x, text);
        return x.line();
    }

    static int rule(FrontFour x, String text) {
        tell(x, text);
        return x.rule();
    }

    static FrontFour train(String text) {
        FrontFour x = new FrontFour();
        int riders = line(x, text);
        if (riders < 0) {
            throw new IllegalStateException("the LINE of a test has a FAULT: " + text + " " + riders);
        }
        return x;
    }

    /** Lets seconds go by till one is come. */
    static FrontFour passTo(FrontFour x, int second) {
        while (x.count(4) < second) {
            if (x.pass(Math.min(99, second - x.count(4))) < 0) {
                throw new IllegalStateException("second " + second + " does not come");
            }
        }
        return x;
    }

    /** All that can be looked at but the TAPE and what can be UNDONE, as a text. */
    static String state(FrontFour x) {
        StringBuilder text = new StringBuilder();
        for (int what = 0; what < 12; what++) {
            text.append(what == 10 ? 0 : x.count(what)).append(' ');
        }
        for (int i = 0; i < 8; i++) {
            for (int what = 0; what < 9; what++) {
                text.append(x.coach(i, what)).append(' ').append(x.way(i, what)).append(' ');
                text.append(x.stop(i, what)).append(' ').append(x.rider(i, what)).append(' ');
            }
            text.append(x.gotIn(i)).append(' ').append(x.soonest(i)).append(' ').append(x.latest(i)).append(' ');
        }
        return text.toString();
    }

    static int fault(int place, int kind) {
        return -2 - (1 + 8 * place + kind);
    }
}
