/** Promises 6 to 9 and 30, sentence by sentence. */
final class EdgesOfLooking {
    private static final int[] FAR = {Integer.MIN_VALUE, Integer.MIN_VALUE + 1, -2, -1, 31, 32, 64, Integer.MAX_VALUE};
    private static Sentences s;

    private EdgesOfLooking() {
    }

    static void test(Sentences sentences) {
        s = sentences;
        coach();
        way();
        stop();
        rider();
        countOfTheLine();
        countOfTheMoment();
        countOfOthers();
    }

    private static void coach() {
        s.part("Promise 6");
        s.says("Of a COACH what 0: DEST, 1: seats, 2: RIDERS in it, as bits.");
        FrontFour x = Due.train("train 3;dest 0 3 1;stop 9 9;seats 0 0;seats 1 9;rider 1 0 1 0;rider 0 0 1 0;rider 1 0 1 0;"
                + "rider 1 0 1 0;rider 1 0 1 0;rider 1 0 1 0");
        int[][] want = {{0, 0, 2}, {3, 9, 61}, {1, 4, 0}};
        for (int c = 0; c < 3; c++) {
            for (int what = 0; what < 3; what++) {
                s.is("coach " + c + " " + what, x.coach(c, what), want[c][what]);
            }
        }
        s.is("all six in one", Due.train("train 2;stop 1 1" + ";rider 1 0 1 0".repeat(6)).coach(1, 2), 63);
        // who goes is in the COACH they left, and at the end in the other one
        x = Due.train("train 2;stop 9 9;rider 0 0 2 0");
        x.inside(0, 1);
        s.is("one second on", Due.passTo(x, 1).coach(0, 2), 1);
        s.is("at the end", Due.passTo(x, 2).coach(0, 2), 0);
        s.is("and there", x.coach(1, 2), 1);
        s.says("NONE without these.");
        for (int coaches = 2; coaches <= 8; coaches++) {
            x = Due.train("train " + coaches + ";stop 1 1");
            s.is("the last COACH", x.coach(coaches - 1, 0), 0);
            s.is("one COACH more", x.coach(coaches, 0), -1);
        }
        s.is("what 3", x.coach(0, 3), -1);
        for (int n : FAR) {
            s.is("coach " + n, x.coach(n, 0), -1);
            s.is("what " + n, x.coach(0, n), -1);
        }
        s.is("without a LINE", new FrontFour().coach(0, 0), -1);
    }

    private static void way() {
        s.part("Promise 7");
        s.says("Of a WAY what 0: 1 if it is SHUT, else 0, 1: the second till which a trolley is in it (0 without),"
                + " 2: who goes through it (NONE).");
        FrontFour x = Due.train("train 4;stop 9 9;shut 1;trolley 0 1;trolley 1 999;rider 2 0 2 0;rider 0 0 1 0");
        int[][] want = {{0, 1, -1}, {1, 999, -1}, {0, 0, -1}};
        for (int w = 0; w < 3; w++) {
            for (int what = 0; what < 3; what++) {
                s.is("way " + w + " " + what, x.way(w, what), want[w][what]);
            }
        }
        x.inside(0, 1);
        s.is("RIDER 0 goes through WAY 2", x.way(2, 2), 0);
        x.pass(1);
        x.inside(1, 1);
        s.is("still at 1", x.way(2, 2), 0);
        s.is("RIDER 1 goes through WAY 0", x.way(0, 2), 1);
        s.is("the trolley's second stays when it is gone", x.way(0, 1), 1);
        x.pass(1);
        s.is("through at 2", x.way(2, 2), -1);
        s.is("through at 2, too", x.way(0, 2), -1);
        s.says("-2 without these.");
        for (int coaches = 2; coaches <= 8; coaches++) {
            x = Due.train("train " + coaches + ";stop 1 1");
            s.is("the last WAY", x.way(coaches - 2, 2), -1);
            s.is("one WAY more", x.way(coaches - 1, 2), -2);
        }
        s.is("what 3", x.way(0, 3), -2);
        for (int n : FAR) {
            s.is("way " + n, x.way(n, 2), -2);
            s.is("what " + n, x.way(0, n), -2);
        }
        s.is("without a LINE", new FrontFour().way(0, 0), -2);
    }

    private static void stop() {
        s.part("Promise 8");
        s.says("Of a STOP what 0: begin of its HALT, 1: its end.");
        FrontFour x = Due.train("train 2" + ";stop 99 60".repeat(6));
        for (int k = 0; k < 6; k++) {
            s.is("begin " + k, x.stop(k, 0), 99 + 159 * k);
            s.is("end " + k, x.stop(k, 1), 159 + 159 * k);
        }
        s.says("NONE without these.");
        for (int stops = 1; stops <= 6; stops++) {
            x = Due.train("train 2" + ";stop 1 1".repeat(stops));
            s.is("the last STOP", x.stop(stops - 1, 0), 2 * stops - 1);
            s.is("one STOP more", x.stop(stops, 0), -1);
        }
        s.is("what 2", x.stop(0, 2), -1);
        for (int n : FAR) {
            s.is("stop " + n, x.stop(n, 0), -1);
            s.is("what " + n, x.stop(0, n), -1);
        }
        s.is("without a LINE", new FrontFour().stop(0, 0), -1);
    }

    private static void rider() {
        s.part("Promise 9");
        s.says("Of a RIDER what 0: COACH, 1: DEST, 2: PACE, 3: LOADS, 4: the second from which they KNOW,"
                + " 5: the COACH to which they go (NONE: they do not), 6: the second at which that ends (NONE),"
                + " 7: GOINGS they began, 8: 1 if their COACH goes to their DEST, else 0.");
        FrontFour x = Due.train("train 3;dest 1 0 0;stop 9 9;rider 1 1 2 1;told 0 999");
        rider(x, "not going", 1, 1, 2, 1, 999, -1, -1, 0, 0);
        x.inside(0, -1);
        rider(x, "begun", 1, 1, 2, 1, 999, 0, 2, 1, 0);
        x.pass(1);
        rider(x, "one second ahead of the end", 1, 1, 2, 1, 999, 0, 2, 1, 0);
        x.pass(1);
        rider(x, "at the end", 0, 1, 2, 1, 999, -1, -1, 1, 1);
        Due.passTo(x, 9);
        x.outside(0, 2);
        rider(x, "OUTSIDE", 0, 1, 2, 1, 999, 2, 17, 2, 1);
        Due.passTo(x, 16);
        rider(x, "OUTSIDE, one ahead of the end", 0, 1, 2, 1, 999, 2, 17, 2, 1);
        Due.passTo(x, 17);
        rider(x, "OUTSIDE, at the end", 2, 1, 2, 1, 999, -1, -1, 2, 0);
        s.is("refused", x.outside(0, 0), -1);
        s.is("is no GOING", x.rider(0, 7), 2);
        s.says("NONE without these.");
        for (int riders = 1; riders <= 6; riders++) {
            x = Due.train("train 2;stop 1 1" + ";rider 0 0 1 0".repeat(riders));
            s.is("the last RIDER", x.rider(riders - 1, 0), 0);
            s.is("one RIDER more", x.rider(riders, 0), -1);
        }
        s.is("what 9", x.rider(0, 9), -1);
        for (int n : FAR) {
            s.is("rider " + n, x.rider(n, 0), -1);
            s.is("what " + n, x.rider(0, n), -1);
        }
        s.is("a LINE without RIDERS", Due.train("train 2;stop 1 1").rider(0, 0), -1);
        s.is("without a LINE", new FrontFour().rider(0, 0), -1);
    }

    private static void rider(FrontFour x, String when, int... want) {
        for (int what = 0; what < want.length; what++) {
            s.is(when + ", what " + what, x.rider(0, what), want[what]);
        }
    }

    private static void countOfTheLine() {
        s.part("Promise 30");
        s.says("What 0: COACHES, 1: STOPS, 2: RIDERS, 3: RULES, 4: the second, 5: PARTING (NONE without a LINE),");
        FrontFour x = new FrontFour();
        int[] without = {0, 0, 0, 0, 0, -1};
        for (int what = 0; what < 6; what++) {
            s.is("without a LINE " + what, x.count(what), without[what]);
        }
        Due.rule(x, "stay");
        s.is("RULES without a LINE", x.count(3), 1);
        s.is("PARTING without a LINE", x.count(5), -1);
        Due.line(x, "train 2;stop 1 1");
        int[] least = {2, 1, 0, 1, 0, 2};
        for (int what = 0; what < 6; what++) {
            s.is("the least LINE " + what, x.count(what), least[what]);
        }
        Due.line(x, "train 8" + ";stop 99 60".repeat(6) + ";rider 0 0 1 0".repeat(6));
        for (int n = 0; n < 5; n++) {
            Due.rule(x, "stay");
        }
        Due.passTo(x, 999);
        int[] most = {8, 6, 6, 6, 999, 954};
        for (int what = 0; what < 6; what++) {
            s.is("the most " + what, x.count(what), most[what]);
        }
    }

    private static void countOfTheMoment() {
        s.says("6: the STOP at which it HALTS now (NONE),");
        FrontFour x = Due.train("train 2;stop 3 2;stop 1 1");
        int[] halts = {-1, -1, -1, 0, 0, 0, 1, 1, -1};
        for (int second = 0; second < halts.length; second++) {
            s.is("at " + second, Due.passTo(x, second).count(6), halts[second]);
        }
        s.is("without a LINE", new FrontFour().count(6), -1);
        s.says("7: RIDERS who go, 8: RIDERS in a COACH that goes to their DEST,");
        x = Due.train("train 4;dest 0 0 1 1;stop 9 9;rider 0 0 1 0;rider 1 1 2 0;rider 2 0 3 0;rider 3 1 1 0;rider 0 3 1 0");
        s.is("nobody goes", x.count(7), 0);
        s.is("0 and 3 are right", x.count(8), 2);
        x.inside(0, 1);
        x.inside(1, 1);
        s.is("two go", x.count(7), 2);
        s.is("who goes is where they were", x.count(8), 2);
        x.pass(1);
        s.is("one goes", x.count(7), 1);
        s.is("one ahead of the end", x.count(8), 2);
        x.pass(1);
        s.is("nobody", x.count(7), 0);
        s.is("three are right", x.count(8), 3);
        s.is("none without a LINE", new FrontFour().count(7) + new FrontFour().count(8), 0);
        x = Due.train("train 8;stop 9 60;platform 1" + ";rider 0 0 1 0".repeat(6));
        Due.passTo(x, 9);
        for (int r = 0; r < 6; r++) {
            x.outside(r, 7);
        }
        s.is("all six go", x.count(7), 6);
        s.is("all six are right", x.count(8), 6);
        s.says("9: SEEN, 10: what can be UNDONE, 11: x, 12: bytes of the TAPE.");
        s.is("SEEN", x.count(9), 0);
        x.seen(0, 0, 0);
        s.is("one SEEN", x.count(9), 1);
        s.is("pass and six outside", x.count(10), 7);
        s.is("x", x.count(11), 0);
        x.seed(2147483647);
        s.is("the largest x", x.count(11), 2147483647);
        s.is("bytes", x.count(12), 0);
        x.feed(0, 0, 0, 0, 0);
        s.is("20 bytes", x.count(12), 20);
    }

    private static void countOfOthers() {
        s.says("NONE for others.");
        FrontFour x = Due.train("train 2;stop 1 1");
        s.is("what 12", x.count(12), 0);
        s.is("what 13", x.count(13), -1);
        s.is("what 0", x.count(0), 2);
        for (int n : FAR) {
            s.is("what " + n, x.count(n), -1);
            s.is("what " + n + " without a LINE", new FrontFour().count(n), -1);
        }
    }
}
