/** What the tests share: texts onto the TAPE, and answers held against those that are due. */
final class Due {
    private int wrong;
    private int asked;

    void is(String call, long got, long want) {
        asked++;
        if (got != want) {
            wrong++;
            System.out.println(call + " answered " + got + ", due is " + want);
        }
    }

    void is(String call, boolean got, boolean want) {
        is(call, got ? 1 : 0, want ? 1 : 0);
    }

    /** Prints how many were right, and ends with exit code 1 if one was not. */
    void close() {
        System.out.println(asked + " answers, " + wrong + " not as due");
        if (wrong != 0 || asked == 0) {
            System.exit(1);
        }
    }

    /** A text behind the TAPE, which must be empty; bytes beyond it are cut off. */
    static void tell(FrontFour x, String text) {
        for (int from = 0; from < text.length(); from += 20) {
            x.feed(four(text, from), four(text, from + 4), four(text, from + 8), four(text, from + 12),
                    four(text, from + 16));
        }
        x.end(text.length());
    }

    private static int four(String text, int from) {
        int number = 0;
        for (int i = from; i < from + 4; i++) {
            number = number << 8 | (i < text.length() ? text.charAt(i) & 255 : 0);
        }
        return number;
    }

    static int line(FrontFour x, String text) {
        tell(x, text);
        return x.line();
    }

    static int rule(FrontFour x, String text) {
        tell(x, text);
        return x.rule();
    }

    static FrontFour train(String text) {
        FrontFour x = new FrontFour();
        int riders = line(x, text);
        if (riders < 0) {
            throw new IllegalStateException("the LINE of a test has a FAULT: " + text + " " + riders);
        }
        return x;
    }

    static int fault(int place, int kind) {
        return -2 - (1 + 8 * place + kind);
    }
}
