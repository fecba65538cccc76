/** Promises 10 to 15, sentence by sentence: what is refused leaves everything as it was. */
final class EdgesOfDoing {
    private static final int[] FAR = {Integer.MIN_VALUE, Integer.MIN_VALUE + 1, 31, 32, 64, Integer.MAX_VALUE};
    private static Sentences s;

    private EdgesOfDoing() {
    }

    static void test(Sentences sentences) {
        s = sentences;
        inside();
        insideRefused();
        outside();
        outsideRefused();
        pass();
        passRefused();
        shut();
        undo();
        run();
        runRefused();
    }

    private static void inside() {
        s.part("Promise 10");
        s.says("INSIDE (way -1 to the COACH ahead, 1 to the one behind): the second at which it ends;");
        FrontFour x = Due.train("train 3;stop 50 9;rider 1 0 5 0;rider 1 0 7 0");
        s.is("ahead", x.inside(0, -1), 5);
        s.is("to COACH 0", x.rider(0, 5), 0);
        s.is("behind", x.inside(1, 1), 7);
        s.is("to COACH 2", x.rider(1, 5), 2);
        x = Due.passTo(Due.train("train 3;stop 50 9;rider 1 0 5 0"), 13);
        s.is("from second 13", x.inside(0, 1), 18);
    }

    private static void insideRefused() {
        s.says("NONE, and nothing happens, without these, or if it can't be begun.");
        FrontFour x = Due.train("train 4;dest 0 0 0 1;stop 9 9;shut 0;trolley 1 3;rider 1 0 2 0;rider 0 0 2 0;rider 3 0 20 0;"
                + "rider 2 0 2 0;rider 2 0 2 0");
        x.pass(1);
        x.inside(3, 1);
        String before = Due.state(x);
        int[] ways = {0, 2, -2};
        for (int way : ways) {
            s.is("way " + way, x.inside(0, way), -1);
        }
        int[] riders = {-1, 5, 6};
        for (int rider : riders) {
            s.is("rider " + rider, x.inside(rider, 1), -1);
        }
        for (int n : FAR) {
            s.is("way " + n, x.inside(0, n), -1);
            s.is("rider " + n, x.inside(n, -1), -1);
        }
        s.is("SHUT", x.inside(0, -1), -1);
        s.is("a trolley", x.inside(0, 1), -1);
        s.is("no COACH ahead", x.inside(1, -1), -1);
        s.is("no COACH behind", x.inside(2, 1), -1);
        s.is("would end behind PARTING", x.inside(2, -1), -1);
        s.is("another one in the WAY", x.inside(4, 1), -1);
        s.is("goes already", x.inside(3, -1), -1);
        s.is("nothing happens", Due.state(x).equals(before), true);
        s.is("nothing more to be UNDONE", x.count(10), 2);
        s.is("without a LINE", new FrontFour().inside(0, 1), -1);
    }

    private static void outside() {
        s.part("Promise 11");
        s.says("OUTSIDE to another COACH: the second at which it ends;");
        FrontFour x = Due.passTo(Due.train("train 8;stop 5 60;platform 3;rider 3 0 1 0"), 5);
        for (int coach = 0; coach < 8; coach++) {
            if (coach != 3) {
                s.is("to " + coach, x.outside(0, coach), 5 + 3 * Math.abs(coach - 3));
                s.is("goes to", x.rider(0, 5), coach);
                x.undo();
            }
        }
    }

    private static void outsideRefused() {
        s.says("NONE, and nothing happens, without these, or if it can't be.");
        FrontFour x = Due.train("train 4;stop 5 8;rider 1 0 2 0;rider 0 0 2 0");
        s.is("while it RIDES", x.outside(0, 0), -1);
        Due.passTo(x, 5);
        x.outside(1, 1);
        String before = Due.state(x);
        int[] coaches = {-1, 1, 4, 5, 8};
        for (int coach : coaches) {
            s.is("to " + coach, x.outside(0, coach), -1);
        }
        int[] riders = {-1, 2, 6};
        for (int rider : riders) {
            s.is("rider " + rider, x.outside(rider, 0), -1);
        }
        for (int n : FAR) {
            s.is("to " + n, x.outside(0, n), -1);
            s.is("rider " + n, x.outside(n, 0), -1);
        }
        s.is("goes already", x.outside(1, 2), -1);
        s.is("nothing happens", Due.state(x).equals(before), true);
        s.is("nothing more to be UNDONE", x.count(10), 2);
        s.is("two COACHES take 8 at 5", x.outside(0, 3), 13);
        x.undo();
        Due.passTo(x, 6);
        s.is("and do not fit at 6", x.outside(0, 3), -1);
        s.is("one does", x.outside(0, 2), 10);
        s.is("without a LINE", new FrontFour().outside(0, 1), -1);
    }

    private static void pass() {
        s.part("Promise 12");
        s.says("n seconds (1 to 99) go by: the second;");
        s.is("1", Due.train("train 2;stop 1 1").pass(1), 1);
        s.is("2", Due.train("train 2;stop 1 1").pass(2), 2);
        s.is("98", Due.train("train 2;stop 1 1").pass(98), 98);
        s.is("99", Due.train("train 2;stop 1 1").pass(99), 99);
        s.is("on from 99", Due.passTo(Due.train("train 2;stop 1 1"), 99).pass(99), 198);
    }

    private static void passRefused() {
        s.says("NONE, and nothing happens, without these (no LINE), or if it would be above 999.");
        FrontFour x = Due.train("train 2;stop 1 1;rider 0 0 3 0");
        x.inside(0, 1);
        String before = Due.state(x);
        int[] seconds = {-1, 0, 100, 101};
        for (int n : seconds) {
            s.is("pass " + n, x.pass(n), -1);
        }
        for (int n : FAR) {
            if (n < 1 || n > 99) {
                s.is("pass " + n, x.pass(n), -1);
            }
        }
        s.is("nothing happens", Due.state(x).equals(before), true);
        s.is("nothing more to be UNDONE", x.count(10), 1);
        s.is("no LINE", new FrontFour().pass(1), -1);
        s.is("to 998", Due.passTo(x, 900).pass(98), 998);
        s.is("to 1000", x.pass(2), -1);
        s.is("998 still", x.count(4), 998);
        s.is("to 999", x.pass(1), 999);
        s.is("to 1000 from 999", x.pass(1), -1);
        s.is("999 still", x.count(4), 999);
        x = Due.passTo(Due.train("train 2;stop 1 1"), 900);
        s.is("99 from 900", x.pass(99), 999);
        x = Due.passTo(Due.train("train 2;stop 1 1"), 901);
        s.is("99 from 901", x.pass(99), -1);
        s.is("98 from 901", x.pass(98), 999);
    }

    private static void shut() {
        s.part("Promise 13");
        s.says("A WAY is SHUT, or opened: true;");
        for (int coaches = 2; coaches <= 8; coaches += 6) {
            FrontFour x = Due.train("train " + coaches + ";stop 1 1");
            for (int way = 0; way < coaches - 1; way++) {
                s.is("SHUT " + way, x.shut(way, true), true);
                s.is("it is so", x.way(way, 0), 1);
                s.is("the next is not", x.way(way + 1, 0), way == coaches - 2 ? -2 : 0);
            }
            for (int way = 0; way < coaches - 1; way++) {
                s.is("opened " + way, x.shut(way, false), true);
                s.is("it is so", x.way(way, 0), 0);
                s.is("the next is SHUT", x.way(way + 1, 0), way == coaches - 2 ? -2 : 1);
            }
        }
        s.says("false, and nothing happens, without it, or if it is so.");
        FrontFour x = Due.train("train 4;stop 1 1;shut 1");
        String before = Due.state(x);
        s.is("SHUT that is so", x.shut(1, true), false);
        s.is("open that is so", x.shut(0, false), false);
        int[] ways = {-2, -1, 3, 4, 7};
        for (int way : ways) {
            s.is("SHUT " + way, x.shut(way, true), false);
            s.is("opened " + way, x.shut(way, false), false);
        }
        for (int way : FAR) {
            s.is("SHUT " + way, x.shut(way, true), false);
            s.is("opened " + way, x.shut(way, false), false);
        }
        s.is("nothing happens", Due.state(x).equals(before), true);
        s.is("nothing to be UNDONE", x.count(10), 0);
        s.is("without a LINE", new FrontFour().shut(0, true), false);
        s.is("opened without a LINE", new FrontFour().shut(0, false), false);
    }

    private static void undo() {
        s.part("Promise 14");
        s.says("The last of these is UNDONE: how many more can be;");
        FrontFour x = Due.train("train 2;stop 9 9;rider 0 0 3 0");
        x.pass(1);
        x.inside(0, 1);
        x.pass(2);
        s.is("of three", x.undo(), 2);
        s.is("second", x.count(4), 1);
        s.is("of two", x.undo(), 1);
        s.is("does not go", x.rider(0, 5), -1);
        s.is("another instead", x.pass(5), 6);
        s.is("of two again", x.undo(), 1);
        s.is("of one", x.undo(), 0);
        s.is("second", x.count(4), 0);
        for (int i = 0; i < 21; i++) {
            x.pass(1);
        }
        s.is("of 20", x.undo(), 19);
        x.pass(1);
        s.is("of 20 again", x.undo(), 19);
        s.says("NONE, and nothing happens: none can.");
        for (int i = 0; i < 19; i++) {
            x.undo();
        }
        s.is("none of 20 is left", x.undo(), -1);
        s.is("second 1 stays", x.count(4), 1);
        s.is("nor the next time", x.undo(), -1);
        s.is("second 1 stays", x.count(4), 1);
        s.is("of a new LINE", Due.train("train 2;stop 1 1").undo(), -1);
        s.is("without a LINE", new FrontFour().undo(), -1);
        // refused calls, SEEN, x and what is asked are none of these
        x = Due.train("train 2;stop 9 9;rider 0 0 3 0");
        x.pass(0);
        x.inside(0, -1);
        x.outside(0, 1);
        x.shut(0, false);
        x.seed(4);
        x.seen(0, 0, 0);
        x.soonest(0);
        x.image(0);
        Due.rule(x, "stay");
        s.is("none of these", x.undo(), -1);
        s.is("SEEN stays", x.count(9), 1);
        s.is("x stays", x.count(11), 4);
    }

    private static void run() {
        s.part("Promise 15");
        s.says("BY A RULE n seconds (1 to 99): the second;");
        int[] seconds = {1, 2, 98, 99};
        for (int n : seconds) {
            FrontFour x = Due.train("train 2;stop 1 1;rider 0 0 1 0");
            Due.rule(x, "inside 1-coach");
            s.is("run " + n, x.run(0, n), n);
            s.is("as many GOINGS", x.rider(0, 7), n);
        }
        FrontFour x = Due.train("train 2;stop 1 1;rider 0 0 1 0");
        for (int n = 0; n < 6; n++) {
            Due.rule(x, "inside 1-coach if moved=" + n);
        }
        for (int n = 0; n < 6; n++) {
            x.run(n, 5);
            s.is("RULE " + n, x.rider(0, 7), n + 1);
        }
    }

    private static void runRefused() {
        s.says("NONE, and nothing happens, without these (no LINE), or if it would be above 999.");
        FrontFour x = Due.train("train 2;stop 1 1;rider 0 0 1 0");
        s.is("RULE 0 of none", x.run(0, 1), -1);
        Due.rule(x, "inside 1-coach");
        x.pass(1);
        String before = Due.state(x);
        int[] seconds = {-1, 0, 100, 101};
        for (int n : seconds) {
            s.is("run " + n, x.run(0, n), -1);
        }
        int[] rules = {-2, -1, 1, 5, 6};
        for (int rule : rules) {
            s.is("RULE " + rule, x.run(rule, 1), -1);
        }
        for (int n : FAR) {
            s.is("RULE " + n, x.run(n, 1), -1);
            if (n < 1 || n > 99) {
                s.is("run " + n, x.run(0, n), -1);
            }
        }
        s.is("nothing happens", Due.state(x).equals(before), true);
        s.is("what can be UNDONE stays", x.count(10), 1);
        FrontFour y = new FrontFour();
        Due.rule(y, "stay");
        s.is("no LINE", y.run(0, 1), -1);
        Due.passTo(x, 900);
        int moved = x.rider(0, 7);
        s.is("99 from 900", x.run(0, 99), 999);
        s.is("from 999", x.run(0, 1), -1);
        s.is("GOINGS", x.rider(0, 7), moved + 99);
        x = Due.passTo(Due.train("train 2;stop 1 1;rider 0 0 1 0"), 901);
        Due.rule(x, "inside 1-coach");
        s.is("99 from 901", x.run(0, 99), -1);
        s.is("nothing happens", x.rider(0, 7) + x.count(4), 901);
        s.is("98 from 901", x.run(0, 98), 999);
    }
}
