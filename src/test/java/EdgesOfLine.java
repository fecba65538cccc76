/** The LINE of Terms I and promise 4, sentence by sentence. */
final class EdgesOfLine {
    private static final String RIDERS = ";rider 0 0 1 0;rider 1 0 1 0;rider 0 1 1 0;rider 0 0 2 0;rider 0 0 1 1";
    private static Sentences s;

    private EdgesOfLine() {
    }

    static void test(Sentences sentences) {
        s = sentences;
        s.part("Terms I");
        bytes();
        clauses();
        train();
        dest();
        stop();
        parting();
        shut();
        trolley();
        seats();
        rider();
        told();
        platform();
        numbersOfCoachesAndWays();
        sixStopsAndRiders();
        atLeastOneStop();
        secondZero();
        s.part("Promise 4");
        inPlaceOfTheOneThereWas();
        faultAndAllStays();
    }

    private static int line(String text) {
        return Due.line(new FrontFour(), text);
    }

    /** A NUMBER at its least and its most and one step to either side of both. */
    private static void range(String ahead, int least, int most, String behind) {
        int[] wrong = {least - 1, most + 1, 99999, 100000};
        for (int n : wrong) {
            if (n >= 0) {
                s.is(ahead + n + behind, line(ahead + n + behind), Due.fault(ahead.length(), 1));
            }
        }
        int[] right = {least, Math.min(least + 1, most), Math.max(most - 1, least), most};
        for (int n : right) {
            s.is(ahead + n + behind, line(ahead + n + behind) >= 0, true);
        }
        s.is(ahead + "-1" + behind, line(ahead + "-1" + behind), Due.fault(ahead.length(), 0));
    }

    private static void bytes() {
        s.says("A LINE is a text of at most 400 bytes:");
        for (int n = 399; n <= 400; n++) {
            String text = "train 2;stop 1 1" + " ".repeat(n - 30) + ";rider 1 0 1 0";
            s.is("length", text.length(), n);
            s.is("a LINE of " + n, line(text), 1);
        }
        FrontFour x = new FrontFour();
        Due.tell(x, "train 2;stop 1 1" + " ".repeat(384));
        s.is("one byte more does not come", x.feed(0x20202020, 0, 0, 0, 0), -1);
        s.is("the LINE of 400", x.line(), 0);
    }

    private static void clauses() {
        s.says("CLAUSE { ; CLAUSE }, 40 at most:");
        s.is("one CLAUSE has no STOP", line("train 2"), Due.fault(7, 0));
        s.is("two", line("train 2;stop 1 1"), 0);
        s.is("none ahead of ;", line(";train 2;stop 1 1"), Due.fault(0, 0));
        s.is("none between ; and ;", line("train 2;;stop 1 1"), Due.fault(8, 0));
        s.is("none behind ;", line("train 2;stop 1 1;"), Due.fault(17, 0));
        s.is("without ;", line("train 2 stop 1 1"), Due.fault(8, 0));
        String text = "train 2;stop 1 1" + ";shut 0".repeat(37);
        s.is("39", line(text), 0);
        text = text + ";shut 0";
        s.is("40", line(text), 0);
        s.is("41", line(text + ";shut 0"), Due.fault(text.length() + 1, 4));
        s.is("42", line(text + ";shut 0;shut 0"), Due.fault(text.length() + 1, 4));
    }

    private static void train() {
        s.says("train NUMBER (COACHES 2 to 8; once, the first CLAUSE)");
        range("train ", 2, 8, ";stop 1 1");
        for (int n = 2; n <= 8; n++) {
            s.is("COACHES", Due.train("train " + n + ";stop 1 1").count(0), n);
        }
        s.is("without a NUMBER", line("train;stop 1 1"), Due.fault(5, 0));
        s.is("with two", line("train 2 2;stop 1 1"), Due.fault(8, 0));
        s.is("never", line("stop 1 1"), Due.fault(0, 4));
        s.is("not the first", line("stop 1 1;train 2"), Due.fault(0, 4));
        s.is("a second one as the second CLAUSE", line("train 2;train 2;stop 1 1"), Due.fault(8, 4));
        s.is("a second one as the last", line("train 2;stop 1 1;train 3"), Due.fault(17, 4));
    }

    private static void dest() {
        s.says("dest { NUMBER } (of each COACH in their order, as many as there are, where it goes, 0 to 3;");
        range("train 2;stop 1 1;dest ", 0, 3, " 0");
        range("train 2;stop 1 1;dest 0 ", 0, 3, "");
        range("train 8;stop 1 1;dest 0 1 2 3 0 1 2 ", 0, 3, "");
        FrontFour x = Due.train("train 8;dest 3 1 0 2 2 0 1 3;stop 1 1");
        int[] dests = {3, 1, 0, 2, 2, 0, 1, 3};
        for (int c = 0; c < 8; c++) {
            s.is("DEST of COACH " + c, x.coach(c, 0), dests[c]);
        }
        for (int coaches = 2; coaches <= 8; coaches++) {
            String ahead = "train " + coaches + ";stop 1 1;dest";
            int end = ahead.length() + 2 * coaches;
            s.is("as many", line(ahead + " 1".repeat(coaches)), 0);
            s.is("one less", line(ahead + " 1".repeat(coaches - 1)), Due.fault(end - 2, 0));
            s.is("one less and ;", line(ahead + " 1".repeat(coaches - 1) + " ;shut 0"), Due.fault(end - 1, 0));
            s.is("one more", line(ahead + " 1".repeat(coaches + 1)), Due.fault(end + 1, 0));
            s.is("none", line(ahead), Due.fault(ahead.length(), 0));
        }
        s.says("once at most, all 0 without)");
        x = Due.train("train 3;stop 1 1");
        s.is("without", x.coach(0, 0) + x.coach(1, 0) + x.coach(2, 0), 0);
        s.is("once", Due.train("train 3;stop 1 1;dest 0 0 2").coach(2, 0), 2);
        s.is("twice", line("train 3;stop 1 1;dest 0 0 2;dest 0 0 2"), Due.fault(28, 4));
    }

    private static void stop() {
        s.says("stop NUMBER NUMBER (seconds of RIDE to it 1 to 99, of its HALT 1 to 60)");
        range("train 2;stop ", 1, 99, " 1");
        range("train 2;stop 1 ", 1, 60, "");
        range("train 2;stop 1 1;stop ", 1, 99, " 60");
        range("train 2;stop 1 1;stop 99 ", 1, 60, "");
        FrontFour x = Due.train("train 2;stop 99 60;stop 1 1;stop 98 59");
        int[] begins = {99, 160, 259};
        int[] ends = {159, 161, 318};
        for (int k = 0; k < 3; k++) {
            s.is("begin of STOP " + k, x.stop(k, 0), begins[k]);
            s.is("end of STOP " + k, x.stop(k, 1), ends[k]);
        }
        s.is("one NUMBER", line("train 2;stop 1"), Due.fault(14, 0));
        s.is("three NUMBERS", line("train 2;stop 1 1 1"), Due.fault(17, 0));
    }

    private static void parting() {
        s.says("parting NUMBER (a STOP that was told;");
        String text = "train 2";
        for (int stops = 1; stops <= 6; stops++) {
            text = text + ";stop 1 1";
            range(text + ";parting ", 0, stops - 1, "");
            for (int k = 0; k < stops; k++) {
                s.is("PARTING at STOP " + k + " of " + stops, Due.train(text + ";parting " + k).count(5), 2 + 2 * k);
            }
        }
        s.is("none was told", line("train 2;parting 0;stop 1 1"), Due.fault(16, 1));
        s.is("one that is told behind it", line("train 2;stop 1 1;parting 1;stop 1 1"), Due.fault(25, 1));
        s.is("one that was, another behind it", Due.train("train 2;stop 1 1;parting 0;stop 1 1").count(5), 2);
        s.says("once at most, the last STOP without)");
        s.is("without, of one", Due.train("train 2;stop 1 1").count(5), 2);
        s.is("without, of two", Due.train("train 2;stop 1 1;stop 1 1").count(5), 4);
        s.is("without, of six", Due.train("train 2" + ";stop 1 1".repeat(6)).count(5), 12);
        s.is("twice", line("train 2;stop 1 1;parting 0;parting 0"), Due.fault(27, 4));
    }

    private static void shut() {
        s.says("shut NUMBER (a WAY)");
        for (int coaches = 2; coaches <= 8; coaches++) {
            range("train " + coaches + ";stop 1 1;shut ", 0, coaches - 2, "");
        }
        FrontFour x = Due.train("train 4;stop 1 1;shut 1;shut 1");
        s.is("WAY 0", x.way(0, 0), 0);
        s.is("WAY 1, told twice", x.way(1, 0), 1);
        s.is("WAY 2", x.way(2, 0), 0);
        x = Due.train("train 8;stop 1 1;shut 0;shut 6");
        s.is("the first and the last", x.way(0, 0) + 2 * x.way(6, 0) + 4 * x.way(1, 0) + 8 * x.way(5, 0), 3);
        s.is("without a NUMBER", line("train 2;stop 1 1;shut"), Due.fault(21, 0));
        s.is("with two", line("train 2;stop 1 1;shut 0 0"), Due.fault(24, 0));
    }

    private static void trolley() {
        s.says("trolley NUMBER NUMBER (a WAY, till second 1 to 999; of one the last told)");
        for (int coaches = 2; coaches <= 8; coaches++) {
            range("train " + coaches + ";stop 1 1;trolley ", 0, coaches - 2, " 1");
        }
        range("train 2;stop 1 1;trolley 0 ", 1, 999, "");
        s.is("till 1", Due.train("train 2;stop 1 1;trolley 0 1").way(0, 1), 1);
        s.is("till 999", Due.train("train 2;stop 1 1;trolley 0 999").way(0, 1), 999);
        FrontFour x = Due.train("train 4;stop 1 1;trolley 1 900;trolley 2 7;trolley 1 5");
        s.is("without", x.way(0, 1), 0);
        s.is("the last told", x.way(1, 1), 5);
        s.is("of another one", x.way(2, 1), 7);
        s.is("the last told, later", Due.train("train 2;stop 1 1;trolley 0 5;trolley 0 900").way(0, 1), 900);
        s.is("one NUMBER", line("train 2;stop 1 1;trolley 0"), Due.fault(26, 0));
        s.is("three NUMBERS", line("train 2;stop 1 1;trolley 0 1 1"), Due.fault(29, 0));
    }

    private static void seats() {
        s.says("seats NUMBER NUMBER (a COACH, 0 to 9; of one the last told, 4 without)");
        for (int coaches = 2; coaches <= 8; coaches++) {
            range("train " + coaches + ";stop 1 1;seats ", 0, coaches - 1, " 1");
        }
        range("train 2;stop 1 1;seats 0 ", 0, 9, "");
        FrontFour x = Due.train("train 5;stop 1 1;seats 1 0;seats 2 9;seats 3 9;seats 3 8;seats 3 1;seats 4 9");
        int[] seats = {4, 0, 9, 1, 9};
        for (int c = 0; c < 5; c++) {
            s.is("seats of COACH " + c, x.coach(c, 1), seats[c]);
        }
        s.is("one NUMBER", line("train 2;stop 1 1;seats 0"), Due.fault(24, 0));
        s.is("three NUMBERS", line("train 2;stop 1 1;seats 0 1 1"), Due.fault(27, 0));
    }

    private static void rider() {
        s.says("rider NUMBER NUMBER NUMBER NUMBER (a COACH, DEST 0 to 3, PACE 1 to 20, LOADS 0 to 3)");
        for (int coaches = 2; coaches <= 8; coaches++) {
            range("train " + coaches + ";stop 1 1;rider ", 0, coaches - 1, " 0 1 0");
        }
        range("train 2;stop 1 1;rider 0 ", 0, 3, " 1 0");
        range("train 2;stop 1 1;rider 0 0 ", 1, 20, " 0");
        range("train 2;stop 1 1;rider 0 0 1 ", 0, 3, "");
        FrontFour x = Due.train("train 8;stop 1 1;rider 0 0 1 0;rider 7 3 20 3;rider 6 2 19 2;rider 1 1 2 1");
        int[][] riders = {{0, 0, 1, 0}, {7, 3, 20, 3}, {6, 2, 19, 2}, {1, 1, 2, 1}};
        for (int r = 0; r < 4; r++) {
            for (int what = 0; what < 4; what++) {
                s.is("rider " + r + " " + what, x.rider(r, what), riders[r][what]);
            }
        }
        s.is("three NUMBERS", line("train 2;stop 1 1;rider 0 0 1"), Due.fault(28, 0));
        s.is("five NUMBERS", line("train 2;stop 1 1;rider 0 0 1 0 0"), Due.fault(31, 0));
    }

    private static void told() {
        s.says("told NUMBER NUMBER (a RIDER that was told, the second 0 to 999 from which they KNOW;");
        String text = "train 2;stop 1 1";
        for (int riders = 1; riders <= 6; riders++) {
            text = text + ";rider 0 0 1 0";
            range(text + ";told ", 0, riders - 1, " 1");
        }
        range("train 2;stop 1 1;rider 0 0 1 0;told 0 ", 0, 999, "");
        s.is("none was told", line("train 2;stop 1 1;told 0 1;rider 0 0 1 0"), Due.fault(22, 1));
        s.is("one that is told behind it", line("train 2;stop 1 1;rider 0 0 1 0;told 1 1;rider 0 0 1 0"),
                Due.fault(36, 1));
        s.says("of one the last told, 0 without)");
        FrontFour x = Due.train("train 2;stop 1 1" + RIDERS + ";told 1 999;told 2 0;told 3 998;told 3 1;told 4 1;told 4 999");
        int[] knows = {0, 999, 0, 1, 999};
        for (int r = 0; r < 5; r++) {
            s.is("RIDER " + r + " KNOWS from", x.rider(r, 4), knows[r]);
        }
        s.is("one NUMBER", line("train 2;stop 1 1;rider 0 0 1 0;told 0"), Due.fault(37, 0));
        s.is("three NUMBERS", line("train 2;stop 1 1;rider 0 0 1 0;told 0 1 1"), Due.fault(40, 0));
    }

    private static void platform() {
        s.says("platform NUMBER (seconds a COACH outside, 1 to 20; once at most, 4 without).");
        range("train 2;stop 1 1;platform ", 1, 20, "");
        String text = "train 3;stop 1 60;rider 0 0 1 0";
        int[] seconds = {1, 2, 19, 20};
        for (int n : seconds) {
            s.is("platform " + n, Due.passTo(Due.train(text + ";platform " + n), 1).outside(0, 1), 1 + n);
        }
        s.is("without", Due.passTo(Due.train(text), 1).outside(0, 1), 5);
        s.is("without, two COACHES", Due.passTo(Due.train(text), 1).outside(0, 2), 9);
        s.is("twice", line("train 2;stop 1 1;platform 4;platform 4"), Due.fault(28, 4));
        s.is("without a NUMBER", line("train 2;stop 1 1;platform"), Due.fault(25, 0));
        s.is("with two", line("train 2;stop 1 1;platform 4 4"), Due.fault(28, 0));
    }

    private static void numbersOfCoachesAndWays() {
        s.says("COACHES 0 (the front) and on; WAY k is that between COACHES k and k + 1.");
        for (int coaches = 2; coaches <= 8; coaches++) {
            FrontFour x = Due.train("train " + coaches + ";stop 1 1");
            s.is("COACH -1", x.coach(-1, 1), -1);
            s.is("COACH 0", x.coach(0, 1), 4);
            s.is("the last COACH", x.coach(coaches - 1, 1), 4);
            s.is("one COACH more", x.coach(coaches, 1), -1);
            s.is("WAY -1", x.way(-1, 0), -2);
            s.is("WAY 0", x.way(0, 0), 0);
            s.is("the last WAY", x.way(coaches - 2, 0), 0);
            s.is("one WAY more", x.way(coaches - 1, 0), -2);
        }
        FrontFour x = Due.train("train 4;stop 9 9;rider 1 0 1 0;rider 2 0 1 0");
        x.inside(0, -1);
        s.is("from 1 ahead is through WAY 0", x.way(0, 2), 0);
        x.inside(1, 1);
        s.is("from 2 behind is through WAY 2", x.way(2, 2), 1);
        s.is("nobody in WAY 1", x.way(1, 2), -1);
    }

    private static void sixStopsAndRiders() {
        s.says("STOPS 0 to 5, RIDERS 0 to 5, in the order told;");
        for (int n = 5; n <= 6; n++) {
            FrontFour x = Due.train("train 2" + ";stop 1 1".repeat(n) + ";rider 0 0 1 0".repeat(n));
            s.is("STOPS", x.count(1), n);
            s.is("RIDERS", x.count(2), n);
            s.is("the last STOP", x.stop(n - 1, 1), 2 * n);
            s.is("one STOP more", x.stop(n, 1), -1);
            s.is("the last RIDER", x.rider(n - 1, 2), 1);
            s.is("one RIDER more", x.rider(n, 2), -1);
        }
        String stops = "train 2" + ";stop 1 1".repeat(6);
        s.is("a seventh STOP", line(stops + ";stop 1 1"), Due.fault(stops.length() + 1, 4));
        String riders = "train 2;stop 1 1" + ";rider 0 0 1 0".repeat(6);
        s.is("a seventh RIDER", line(riders + ";rider 0 0 1 0"), Due.fault(riders.length() + 1, 4));
        FrontFour x = Due.train("train 2;rider 0 0 3 0;stop 5 1;rider 0 0 4 0;stop 6 1;rider 0 0 5 0");
        s.is("STOP 0 was the first", x.stop(0, 0), 5);
        s.is("STOP 1 the next", x.stop(1, 0), 12);
        for (int r = 0; r < 3; r++) {
            s.is("PACE of RIDER " + r, x.rider(r, 2), 3 + r);
        }
    }

    private static void atLeastOneStop() {
        s.says("at least one STOP.");
        s.is("none", line("train 2;rider 0 0 1 0"), Due.fault(21, 0));
        s.is("none, and a blank at the end", line("train 2;rider 0 0 1 0 "), Due.fault(22, 0));
        s.is("one", line("train 2;rider 0 0 1 0;stop 1 1"), 1);
        s.is("two", line("train 2;rider 0 0 1 0;stop 1 1;stop 1 1"), 1);
    }

    private static void secondZero() {
        s.says("It is second 0.");
        FrontFour x = Due.train("train 2;stop 1 1");
        s.is("second", x.count(4), 0);
        s.is("pass", x.pass(1), 1);
        Due.line(x, "train 2;stop 1 1");
        s.is("second of another LINE", x.count(4), 0);
    }

    private static void inPlaceOfTheOneThereWas() {
        s.says("The TAPE, which is empty then,");
        FrontFour x = new FrontFour();
        Due.tell(x, "train 2;stop 1 1");
        s.is("bytes ahead", x.count(12), 16);
        s.is("line", x.line(), 0);
        s.is("bytes behind", x.count(12), 0);
        s.is("line of nothing", x.line(), Due.fault(0, 0));
        s.is("a FAULT empties it, too", Due.line(x, "train 1") + x.count(12), Due.fault(6, 1));
        s.says("is the LINE in place of the one there was (second 0, none SEEN, nothing to be UNDONE; x stays):");
        String other = "train 3;dest 1 2 3;stop 7 7;rider 2 1 2 0";
        x = Due.train("train 8;dest 3 3 3 3 3 3 3 3;stop 9 9;stop 9 9;parting 0;shut 0;shut 1;trolley 1 99;seats 1 9;"
                + "rider 0 0 9 3;rider 0 1 9 3;told 0 50;platform 20");
        Due.rule(x, "stay");
        x.seed(2147483647);
        x.inside(0, 1);
        x.pass(9);
        x.outside(1, 1);
        x.seen(0, 0, 0);
        s.is("another LINE", Due.line(x, other), 1);
        FrontFour y = Due.train(other);
        Due.rule(y, "stay");
        y.seed(2147483647);
        s.is("as if it were the first, but x and the RULES", Due.state(x).equals(Due.state(y)), true);
        s.is("second", x.count(4), 0);
        s.is("SEEN", x.count(9), 0);
        s.is("to be UNDONE", x.count(10), 0);
        s.is("undo", x.undo(), -1);
        s.is("x", x.count(11), 2147483647);
        s.is("RULES", x.count(3), 1);
        s.is("platform 4 again", Due.passTo(x, 7).outside(0, 1), 11);
        s.is("another LINE, of the least", Due.line(x, "train 3;stop 7 7"), 0);
        y = Due.train("train 3;stop 7 7");
        Due.rule(y, "stay");
        y.seed(2147483647);
        s.is("as if it were the first", Due.state(x).equals(Due.state(y)), true);
        s.says("how many RIDERS;");
        s.is("none", line("train 2;stop 1 1"), 0);
        s.is("one", line("train 2;stop 1 1;rider 0 0 1 0"), 1);
        s.is("five", line("train 2;stop 1 1" + RIDERS), 5);
        s.is("six", line("train 2;stop 1 1" + RIDERS + ";rider 0 0 1 0"), 6);
    }

    private static void faultAndAllStays() {
        s.says("-2 - its FAULT, and all stays.");
        s.is("FAULT 1, the least", line(""), -3);
        s.is("FAULT 2 can't be at place 0, FAULT 5 can", line("stop 1 1"), -7);
        s.is("FAULT 3201, the largest", line(" ".repeat(400)), -3203);
        FrontFour x = Due.train("train 4;dest 0 0 1 1;stop 9 9;stop 9 9;shut 2;trolley 1 9;seats 0 1;rider 0 1 2 0;"
                + "rider 3 0 2 1;told 1 5;platform 3");
        x.seed(5);
        x.inside(0, 1);
        x.pass(3);
        x.seen(0, 1, 2);
        x.image(1);
        String before = Due.state(x);
        String all = "train 8;dest 3 3 3 3 3 3 3 3;stop 1 1;stop 1 1;stop 1 1;parting 0;shut 0;trolley 0 1;seats 0 0;"
                + "rider 7 3 1 3;rider 7 3 1 3;rider 7 3 1 3;told 0 9;told 1 9;platform 1;";
        s.is("a FAULT at the end", Due.line(x, all), Due.fault(all.length(), 0));
        s.is("all stays", Due.state(x).equals(before), true);
        s.is("a FAULT at once", Due.line(x, "shut 0"), Due.fault(0, 4));
        s.is("all stays", Due.state(x).equals(before), true);
        s.is("a LINE without a STOP", Due.line(x, "train 8"), Due.fault(7, 0));
        s.is("all stays", Due.state(x).equals(before), true);
        s.is("what can be UNDONE, too", x.count(10), 2);
        s.is("undo", x.undo(), 1);
        s.is("IMAGES, too", x.back(1), 3);
        s.is("as it was", Due.state(x).equals(before), true);
    }
}
