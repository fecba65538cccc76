/** IMAGES of Terms III and promises 31 and 32, sentence by sentence. */
final class EdgesOfImages {
    private static final int[] FAR = {Integer.MIN_VALUE, Integer.MIN_VALUE + 1, -2, -1, 4, 5, 31, 32, 64, Integer.MAX_VALUE};
    private static Sentences s;

    private EdgesOfImages() {
    }

    static void test(Sentences sentences) {
        s = sentences;
        s.part("Terms III");
        images();
        theseStay();
        imageAnswers();
        backAnswers();
    }

    /** A LINE of which something was done, SEEN and seeded. */
    private static FrontFour some() {
        FrontFour x = Due.train("train 4;dest 0 0 1 1;stop 5 9;stop 9 9;parting 0;shut 2;trolley 1 9;seats 1 9;rider 0 1 2 0;"
                + "rider 3 0 3 2;told 1 7;platform 2");
        x.inside(0, 1);
        x.pass(1);
        x.seen(0, 1, 3);
        x.seed(77);
        return x;
    }

    private static void doMore(FrontFour x) {
        x.shut(0, true);
        x.shut(2, false);
        x.pass(7);
        x.outside(1, 2);
        x.seen(1, 0, 9);
        x.seed(78);
    }

    private static void images() {
        s.says("IMAGES 0 to 3: all but the TAPE and the RULES, as it is; gone back to, it is as it was");
        FrontFour x = some();
        String[] states = new String[4];
        for (int k = 0; k < 4; k++) {
            states[k] = Due.state(x);
            s.is("image " + k, x.image(k), x.count(4));
            doMore(x);
        }
        for (int k = 3; k >= 0; k--) {
            x.back(k);
            s.is("as it was in " + k, Due.state(x).equals(states[k]), true);
        }
        x.back(2);
        s.is("a later one is there still", Due.state(x).equals(states[2]), true);
        doMore(x);
        x.back(2);
        s.is("gone back to twice", Due.state(x).equals(states[2]), true);
        // of SEEN not only how many
        x.seen(-1, 0, 0);
        for (int n = 0; n < 12; n++) {
            x.seen(1, 3, 0);
        }
        x.back(2);
        s.is("SEEN as they were", Due.state(x).equals(states[2]), true);
        FrontFour z = Due.train("train 4;stop 60 9;rider 0 0 5 0;rider 0 0 5 0");
        z.seen(0, 0, 5);
        z.image(0);
        z.seen(-1, 0, 0);
        z.seen(1, 3, 0);
        s.is("SEEN are others", z.gotIn(0), 15);
        z.back(0);
        s.is("who was SEEN, where and when", z.gotIn(0), 3);
        s.is("and nobody else", z.gotIn(1), 15);
        z.seen(-1, 0, 0);
        z.seen(0, 0, 0);
        z.back(0);
        s.is("when", z.gotIn(0), 3);
        // another LINE goes and comes with its IMAGE
        Due.line(x, "train 2;stop 1 1;rider 0 0 1 0");
        String other = Due.state(x);
        x.image(0);
        x.back(1);
        s.is("the LINE of IMAGE 1", Due.state(x).equals(states[1]), true);
        x.back(0);
        s.is("the LINE of IMAGE 0, made anew", Due.state(x).equals(other), true);
        x.back(3);
        s.is("the LINE of IMAGE 3", Due.state(x).equals(states[3]), true);
    }

    private static void theseStay() {
        s.says("(these stay; nothing can be UNDONE then).");
        FrontFour x = some();
        Due.rule(x, "stay");
        Due.tell(x, "abc");
        x.image(0);
        s.is("an IMAGE alone leaves what can be UNDONE", x.count(10), 2);
        doMore(x);
        x.end(0);
        Due.rule(x, "stay");
        Due.tell(x, "abcde");
        s.is("ahead of back", x.count(10), 6);
        x.back(0);
        s.is("bytes of the TAPE", x.count(12), 5);
        s.is("RULES", x.count(3), 2);
        s.is("RULE 1 can be run", x.run(1, 1), 2);
        x.back(0);
        s.is("to be UNDONE", x.count(10), 0);
        s.is("undo", x.undo(), -1);
        x.pass(1);
        s.is("from then on", x.undo(), 0);
        s.is("no more than that", x.undo(), -1);
    }

    private static void imageAnswers() {
        s.part("Promise 31");
        s.says("An IMAGE is made: the second;");
        FrontFour x = Due.train("train 2;stop 1 1");
        s.is("at 0", x.image(0), 0);
        s.is("at 1", Due.passTo(x, 1).image(1), 1);
        s.is("at 998", Due.passTo(x, 998).image(2), 998);
        s.is("at 999", Due.passTo(x, 999).image(3), 999);
        s.is("in place of one that was made", x.image(0), 999);
        s.is("it is that", x.back(0), 999);
        s.is("without a LINE", new FrontFour().image(0), 0);
        s.says("NONE without it.");
        for (int k : FAR) {
            s.is("image " + k, x.image(k), -1);
        }
        s.is("image 3", x.image(3), 999);
    }

    private static void backAnswers() {
        s.part("Promise 32");
        s.says("All is as in an IMAGE: the second;");
        FrontFour x = Due.passTo(Due.train("train 2;stop 1 1"), 5);
        x.image(0);
        Due.passTo(x, 6);
        x.image(3);
        Due.passTo(x, 999);
        s.is("back to 5", x.back(0), 5);
        s.is("second", x.count(4), 5);
        s.is("back to 6", x.back(3), 6);
        s.is("second", x.count(4), 6);
        s.says("NONE, and nothing happens, if it was never made, or without it.");
        x.pass(1);
        String before = Due.state(x);
        s.is("1 was never made", x.back(1), -1);
        s.is("2 was never made", x.back(2), -1);
        for (int k : FAR) {
            s.is("back " + k, x.back(k), -1);
            x.image(k);
            s.is("back " + k + " again", x.back(k), -1);
        }
        s.is("nothing happens", Due.state(x).equals(before), true);
        s.is("what can be UNDONE stays", x.count(10), 1);
        s.is("another LINE leaves them", Due.line(x, "train 3;stop 1 1"), 0);
        s.is("back", x.back(0), 5);
        for (int k = 0; k < 4; k++) {
            s.is("of a new object", new FrontFour().back(k), -1);
        }
        // an IMAGE of no LINE is without one again
        x = new FrontFour();
        x.seed(3);
        x.image(2);
        Due.line(x, "train 2;stop 1 1");
        s.is("back to no LINE", x.back(2), 0);
        s.is("no COACHES", x.count(0), 0);
        s.is("no PARTING", x.count(5), -1);
    }
}
