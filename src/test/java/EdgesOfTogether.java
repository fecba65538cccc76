/** PUT to JOURNEYS of Terms III and promises 22 to 29, sentence by sentence. */
final class EdgesOfTogether {
    private static final int[] FAR = {Integer.MIN_VALUE, Integer.MIN_VALUE + 1, 31, 32, 64, 256, Integer.MAX_VALUE};
    private static Sentences s;

    private EdgesOfTogether() {
    }

    static void test(Sentences sentences) {
        s = sentences;
        s.part("Terms III");
        put();
        putTheFewest();
        family();
        familyByParting();
        meet();
        meetAsFarAsTheyCan();
        meetAtOneTime();
        seen();
        gotIn();
        gotInBySeen();
        sit();
        draws();
        journeys();
        journeysOfWhoKnows();
        putAnswers();
        familyAnswers();
        meetAnswers();
        seenAnswers();
        gotInAnswers();
        sitAnswers();
        seedAnswers();
        journeysAnswers();
    }

    private static FrontFour at(int second, String line) {
        return Due.passTo(Due.train(line), second);
    }

    private static void order(String line, int riders, int... dests) {
        order(Due.train(line), line, riders, dests);
    }

    private static void order(FrontFour x, String line, int riders, int... dests) {
        s.is("put NONE of " + line, x.put(-1), riders);
        for (int c = 0; c < dests.length; c++) {
            s.is("put " + c + " of " + line, x.put(c), dests[c]);
        }
    }

    private static void put() {
        s.says("PUT: COACHES by DEST in one block each: of all orders of the blocks (as many COACHES of each DEST as there"
                + " are, those without left out)");
        order("train 2;stop 1 1", 0, 0, 0);
        order("train 2;dest 3 3;stop 1 1", 0, 3, 3);
        order("train 2;dest 3 0;stop 1 1", 0, 0, 3);
        order("train 5;dest 2 1 2 1 2;stop 1 1", 0, 1, 1, 2, 2, 2);
        order("train 8;dest 3 2 1 0 3 2 1 3;stop 1 1", 0, 0, 1, 1, 2, 2, 3, 3, 3);
        // all orders of three blocks of one COACH each, by RIDERS who want just that
        int[][] orders = {{0, 1, 2}, {0, 2, 1}, {1, 0, 2}, {1, 2, 0}, {2, 0, 1}, {2, 1, 0}};
        for (int[] o : orders) {
            order("train 3;dest 0 1 2;stop 1 1;rider 0 " + o[0] + " 1 0;rider 1 " + o[1] + " 1 0;rider 2 " + o[2] + " 1 0",
                    0, o);
        }
        order("train 4;dest 0 1 2 3;stop 1 1;rider 0 3 1 0;rider 1 2 1 0;rider 2 1 1 0;rider 3 0 1 0", 0, 3, 2, 1, 0);
        // a block is not split, though RIDERS would have it so
        order("train 3;dest 0 0 1;stop 1 1;rider 0 0 1 0;rider 1 1 1 0;rider 2 0 1 0", 2, 0, 0, 1);
    }

    private static void putTheFewest() {
        s.says("that by which fewest RIDERS (where they are now, by number of the COACH) are in one that does not go to their"
                + " DEST; of several the first, as a row of DESTS of COACHES.");
        String train = "train 2;dest 0 1;stop 9 9";
        String wants0 = ";rider 0 0 1 0";
        String wants1 = ";rider 0 1 1 0";
        order(train + wants0.repeat(2) + wants1, 1, 0, 1);
        order(train + wants0.repeat(2) + wants1.repeat(2), 2, 0, 1);
        order(train + wants0.repeat(2) + wants1.repeat(3), 2, 1, 0);
        order(train + wants1, 0, 1, 0);
        order(train + ";rider 0 3 1 0", 1, 0, 1);
        order("train 3;dest 0 1 2;stop 1 1;rider 0 2 1 0", 0, 2, 0, 1);
        order("train 3;dest 0 1 2;stop 1 1;rider 1 0 1 0", 0, 1, 0, 2);
        order("train 3;dest 0 1 2;stop 1 1;rider 2 0 1 0", 0, 1, 2, 0);
        order("train 8;dest 3 3 3 3 1 1 1 0;stop 1 1;rider 3 0 1 0", 0, 1, 1, 1, 0, 3, 3, 3, 3);
        // who goes is where they were till the GOING ends
        FrontFour x = Due.train(train + ";rider 0 1 3 0");
        x.inside(0, 1);
        order(Due.passTo(x, 2), "one ahead of the end", 0, 1, 0);
        order(Due.passTo(x, 3), "at the end", 0, 0, 1);
    }

    private static void family() {
        s.says("FAMILY, a set of RIDERS: the COACH in which all of them can be soonest (each as in SOONEST, but to that COACH;"
                + " the latest of them),");
        String line = "train 5;dest 0 1 1 1 0;stop 60 9;platform 20;rider 1 1 3 0;rider 3 1 3 0";
        s.is("between them", Due.train(line).family(3, 0), 2);
        s.is("when", Due.train(line).family(3, 1), 3);
        s.is("RIDER 0 alone", Due.train(line).family(1, 0), 1);
        s.is("at once", Due.train(line).family(1, 1), 0);
        s.is("RIDER 1 alone", Due.train(line).family(2, 0), 3);
        FrontFour x = Due.train(line);
        s.is("asked of both", x.family(3, 1), 3);
        s.is("and then of one", x.family(1, 1), 0);
        s.is("and of the other", x.family(2, 1), 0);
        x = Due.train(line + ";told 1 7");
        s.is("the latest KNOWS from 7: where they are", x.family(3, 0), 3);
        s.is("when", x.family(3, 1), 7);
        s.is("from 5 on the other from 7: between them", Due.passTo(x, 5).family(3, 0), 2);
        s.is("when", x.family(3, 1), 10);
        x = Due.train(line);
        x.inside(0, 1);
        s.is("who goes from the end of that", x.family(1, 1), 3);
        s.is("there", x.family(1, 0), 2);
        s.says("of COACHES that go to the DEST of the least of them,");
        line = "train 4;dest 0 0 1 1;stop 60 9;platform 20;rider 3 1 2 0;rider 0 0 2 0;rider 3 3 2 0";
        s.is("the DEST of 0", Due.train(line).family(3, 0), 2);
        s.is("when", Due.train(line).family(3, 1), 4);
        s.is("the DEST of 1", Due.train(line).family(6, 0), 1);
        s.is("when", Due.train(line).family(6, 1), 4);
        s.is("the DEST of 2, which is none", Due.train(line).family(4, 0), -2);
        s.is("all three", Due.train(line).family(7, 0), 2);
        String eight = "train 8;dest 1 0 0 0 0 0 0 1;stop 60 9;platform 20;rider 7 1 2 0;rider 0 1 1 0";
        s.is("in the last of eight", Due.train(eight).family(3, 0), 7);
        s.is("when", Due.train(eight).family(3, 1), 7);
    }

    private static void familyByParting() {
        s.says("by PARTING;");
        String line = "train 2;stop 5 5;platform 20;rider 0 0 4 0;rider 1 0 4 0";
        s.is("at PARTING", at(6, line).family(3, 1), 10);
        s.is("one behind", at(7, line).family(3, 1), -2);
        s.is("one alone at PARTING", at(10, line).family(1, 1), 10);
        s.is("one behind", at(11, line).family(1, 1), -2);
        s.is("KNOWS from PARTING", Due.train(line + ";told 0 10").family(1, 1), 10);
        s.is("KNOWS from one behind", Due.train(line + ";told 0 11").family(1, 1), -2);
        s.says("of several the least COACH.");
        String both = "train 3;dest 0 1 1;stop 60 9;platform 20;rider 1 1 ";
        s.is("as soon in both", Due.train(both + "3 0;rider 2 1 3 0").family(3, 0), 1);
        s.is("sooner in 1", Due.train(both + "4 0;rider 2 1 3 0").family(3, 0), 1);
        s.is("sooner in 2", Due.train(both + "3 0;rider 2 1 4 0").family(3, 0), 2);
        s.is("when", Due.train(both + "3 0;rider 2 1 4 0").family(3, 1), 3);
    }

    private static void meet() {
        s.says("MEET of two RIDERS who would go straight INSIDE (from the second from which each may) each to the COACH where"
                + " the other is");
        String line = "train 4;stop 60 9;rider 0 0 5 0;rider 3 0 5 0";
        s.is("in the middle", Due.train(line).meet(0, 1, 0), 1);
        s.is("when", Due.train(line).meet(0, 1, 1), 5);
        s.is("from 7", at(7, line).meet(0, 1, 1), 12);
        s.is("one KNOWS from 4", Due.train(line + ";told 0 4").meet(0, 1, 0), 1);
        s.is("when", Due.train(line + ";told 0 4").meet(0, 1, 1), 9);
        s.is("one KNOWS from 5", Due.train(line + ";told 0 5").meet(0, 1, 0), -2);
        s.is("one KNOWS from 6", Due.train(line + ";told 0 6").meet(0, 1, 0), 0);
        s.is("when", Due.train(line + ";told 0 6").meet(0, 1, 1), 10);
        s.is("in one COACH", Due.train("train 2;stop 60 9;rider 1 0 5 0;rider 1 0 5 0").meet(0, 1, 0), -2);
        s.is("at both ends of eight", Due.train("train 8;stop 60 9;rider 0 0 1 0;rider 7 0 9 0").meet(0, 1, 0), 6);
        s.is("when", Due.train("train 8;stop 60 9;rider 0 0 1 0;rider 7 0 9 0").meet(0, 1, 1), 6);
        s.is("in COACHES beside", Due.train("train 2;stop 60 9;rider 1 0 5 0;rider 0 0 5 0").meet(0, 1, 0), 0);
        FrontFour x = Due.train("train 4;stop 60 9;rider 0 0 5 0;rider 2 0 5 0");
        x.inside(1, 1);
        // RIDER 0 in WAY 1 from 5 to 9 and in WAY 2 from 10; RIDER 1 is in COACH 3 at 5 and in WAY 2 from 5 to 9
        s.is("from the end of a GOING", x.meet(0, 1, 0), -2);
        x = Due.train("train 3;stop 60 9;rider 1 0 5 0;rider 0 0 5 0");
        x.inside(0, 1);
        s.is("to the COACH where the other will be", x.meet(1, 0, 0), 1);
        s.is("when", x.meet(1, 0, 1), 5);
        x = Due.train("train 2;stop 60 9;rider 0 0 5 0;rider 1 0 5 0");
        x.inside(0, 1);
        s.is("then both are in one COACH", x.meet(0, 1, 0), -2);
    }

    private static void meetAsFarAsTheyCan() {
        s.says("(as far as they can; each GOING begun as soon as it can be):");
        String line = "train 3;stop 60 9;rider 0 0 5 0;rider 2 0 5 0;told 0 5";
        s.is("RIDER 1 comes through WAY 1 from 0 to 4, RIDER 0 begins at 5", Due.train(line).meet(0, 1, 1), 5);
        s.is("in WAY 0", Due.train(line).meet(0, 1, 0), 0);
        s.is("WAY 1 is SHUT for both", Due.train(line + ";shut 1").meet(0, 1, 0), -2);
        s.is("WAY 0 is SHUT for both", Due.train(line + ";shut 0").meet(0, 1, 0), -2);
        s.is("a trolley in WAY 1 till 9", Due.train(line + ";trolley 1 9").meet(0, 1, 0), 1);
        s.is("when both may", Due.train(line + ";trolley 1 9").meet(0, 1, 1), 10);
        s.is("a trolley in WAY 0 till 20", Due.train(line + ";trolley 0 20").meet(0, 1, 1), 20);
        String parted = "train 3;dest 0 0 1;stop 3 3;platform 20;rider 0 0 4 0;rider 2 0 ";
        s.is("RIDER 1 is through by PARTING, RIDER 0 is not", Due.train(parted + "4 0;told 0 5").meet(0, 1, 0), 0);
        s.is("at PARTING", Due.train(parted + "6 0;told 0 6").meet(0, 1, 0), 0);
        s.is("nor is RIDER 1", Due.train(parted + "7 0;told 0 6").meet(0, 1, 0), -2);
    }

    private static void meetAtOneTime() {
        s.says("the WAY in which they would be at one time (each GOING from its begin to one second ahead of its end), the first"
                + " second of that.");
        String line = "train 2;stop 60 9;rider 0 0 4 0;rider 1 0 6 0;told 1 ";
        for (int knows = 0; knows <= 6; knows++) {
            int want = knows < 4 ? knows : -2;
            s.is("from 0 to 3, the other from " + knows, Due.train(line + knows).meet(0, 1, 1), want);
            s.is("the other way round", Due.train(line + knows).meet(1, 0, 1), want);
            s.is("the WAY", Due.train(line + knows).meet(0, 1, 0), knows < 4 ? 0 : -2);
        }
        s.is("a GOING of one second", Due.train("train 2;stop 60 9;rider 0 0 1 0;rider 1 0 6 0").meet(0, 1, 1), 0);
        s.is("and the other one behind it", Due.train("train 2;stop 60 9;rider 0 0 1 0;rider 1 0 6 0;told 1 1").meet(0, 1, 1),
                -2);
    }

    private static void seen() {
        s.says("SEEN, 12 at most, told: a RIDER was in a COACH, and did not go, at a second (0 to 999).");
        FrontFour x = Due.train("train 3;stop 60 9;rider 0 0 5 0;rider 0 0 5 0");
        for (int n = 1; n <= 12; n++) {
            s.is("SEEN " + n, x.seen(n % 2, 1, 999), n);
        }
        s.is("SEEN 13", x.seen(0, 1, 999), -2);
        s.is("of whoever it is", x.seen(1, 0, 0), -2);
        s.is("12", x.count(9), 12);
        x.seen(-1, 0, 0);
        s.is("at -1", x.seen(0, 1, -1), -2);
        s.is("at 0", x.seen(0, 1, 0), 1);
        s.is("at 1", x.seen(0, 1, 1), 2);
        s.is("at 998", x.seen(0, 1, 998), 3);
        s.is("at 999", x.seen(0, 1, 999), 4);
        s.is("at 1000", x.seen(0, 1, 1000), -2);
        // in a COACH, and did not go: a GOING that lasts over that second can't be
        x = Due.train("train 3;stop 60 9;platform 20;rider 0 0 5 0");
        x.seen(0, 0, 3);
        x.seen(0, 1, 8);
        s.is("5 seconds between", x.gotIn(0), 1);
        x.seen(-1, 0, 0);
        x.seen(0, 0, 4);
        x.seen(0, 1, 8);
        s.is("4 seconds between", x.gotIn(0), 0);
    }

    private static void gotIn() {
        s.says("GOT IN: COACHES in which they can have been at second 0 (KNOWING or not),");
        String line = "train 4;stop 60 9;platform 20;rider 3 0 5 0;told 0 999";
        s.is("not SEEN", Due.train(line).gotIn(0), 15);
        int[] bits = {2, 2, 7, 7, 7, 15, 15};
        int[] seconds = {0, 4, 5, 6, 9, 10, 11};
        for (int i = 0; i < seconds.length; i++) {
            FrontFour x = Due.train(line);
            x.seen(0, 1, seconds[i]);
            s.is("SEEN in 1 at " + seconds[i], x.gotIn(0), bits[i]);
        }
        FrontFour x = Due.train(line);
        x.seen(0, 0, 4);
        s.is("at the front", x.gotIn(0), 1);
        x.pass(50);
        x.inside(0, -1);
        s.is("where they are now does not count", x.gotIn(0), 1);
    }

    private static void gotInBySeen() {
        s.says("so that all SEEN of them can be so.");
        FrontFour x = Due.train("train 4;stop 60 9;platform 20;rider 3 0 5 0;rider 3 0 5 0");
        x.seen(0, 1, 5);
        x.seen(0, 3, 15);
        s.is("10 seconds for two COACHES", x.gotIn(0), 7);
        x.seen(0, 1, 6);
        s.is("9 seconds", x.gotIn(0), 0);
        s.is("another RIDER", x.gotIn(1), 15);
        x.seen(-1, 0, 0);
        x.seen(0, 3, 15);
        x.seen(0, 1, 5);
        x.seen(0, 0, 0);
        s.is("told in any order", x.gotIn(0), 1);
        // of two RIDERS, each told ahead of what was told before: neither is SEEN for the other
        FrontFour two = Due.train("train 4;stop 60 9;platform 20;rider 3 0 5 0;rider 3 0 5 0");
        two.seen(1, 3, 5);
        two.seen(0, 0, 0);
        s.is("RIDER 0 at 0", two.gotIn(0), 1);
        s.is("RIDER 1 at 5", two.gotIn(1), 12);
        x.seen(-1, 0, 0);
        for (int second = 40; second >= 0; second -= 20) {
            x.seen(0, second / 20, second);
            x.seen(1, 3 - second / 20, second + 10);
        }
        s.is("RIDER 0 from 0 to 1 to 2", x.gotIn(0), 1);
        s.is("RIDER 1 from 3 to 2 to 1, from anywhere by 10", x.gotIn(1), 14);
        x.seen(0, 3, 41);
        s.is("RIDER 0 can't be in 3 at 41", x.gotIn(0), 0);
        s.is("RIDER 1 can", x.gotIn(1), 14);
        x.seen(-1, 0, 0);
        x.seen(0, 3, 15);
        x.seen(0, 1, 5);
        x.seen(0, 0, 0);
        x.seen(0, 1, 0);
        s.is("in two at one second", x.gotIn(0), 0);
        x.seen(-1, 0, 0);
        s.is("nothing is SEEN then", x.gotIn(0), 15);
        // OUTSIDE, and what is parted
        String parted = "train 2;dest 0 1;stop 5 5;platform 4;shut 0;rider 0 0 1 0";
        int[] seconds = {8, 9, 10, 999};
        int[] bits = {2, 3, 3, 3};
        for (int i = 0; i < seconds.length; i++) {
            x = Due.train(parted);
            x.seen(0, 1, seconds[i]);
            s.is("OUTSIDE by " + seconds[i], x.gotIn(0), bits[i]);
        }
        for (int second = 5; second <= 7; second++) {
            x = Due.train(parted);
            x.seen(0, 0, second);
            x.seen(0, 1, 999);
            s.is("SEEN in 0 at " + second + ", 4 seconds till PARTING at 10", x.gotIn(0),
                    second <= 6 ? 1 : 0);
        }
        // what ends at 999 at the latest is looked at
        for (int till = 989; till <= 991; till++) {
            x = Due.train("train 2;stop 5 5;platform 20;rider 0 0 9 0;trolley 0 " + till);
            x.seen(0, 1, 999);
            s.is("a trolley till " + till, x.gotIn(0), till <= 990 ? 3 : 2);
        }
        x = Due.train("train 2;dest 0 1;stop 5 5;platform 20;rider 0 0 4 0");
        x.seen(0, 0, 6);
        x.seen(0, 1, 10);
        s.is("INSIDE by PARTING, from 1 by way of 0", x.gotIn(0), 3);
        x.seen(0, 0, 999);
        s.is("and not back behind it", x.gotIn(0), 0);
    }

    private static void sit() {
        s.says("SIT for a DEST: of COACHES that go there that with most seats less RIDERS there (above 0), of several the"
                + " least.");
        String line = "train 3;dest 0 0 1;stop 9 9;seats 0 ";
        s.is("3 and 4", Due.train(line + "3").sit(0), 1);
        s.is("4 and 4", Due.train(line + "4").sit(0), 0);
        s.is("5 and 4", Due.train(line + "5").sit(0), 0);
        s.is("5 less one, and 4", Due.train(line + "5;rider 0 2 1 0").sit(0), 0);
        s.is("5 less two, and 4", Due.train(line + "5;rider 0 2 1 0;rider 0 2 1 0").sit(0), 1);
        s.is("there alone", Due.train(line + "9").sit(1), 2);
        String few = "train 2;dest 0 1;stop 9 9;rider 0 2 5 0;seats 0 ";
        s.is("2 less one", Due.train(few + "2").sit(0), 0);
        s.is("1 less one", Due.train(few + "1").sit(0), -2);
        s.is("0 less one", Due.train(few + "0").sit(0), -2);
        FrontFour x = Due.train(few + "1");
        x.inside(0, 1);
        s.is("one ahead of the end of a GOING", Due.passTo(x, 4).sit(0), -2);
        s.is("at the end", Due.passTo(x, 5).sit(0), 0);
    }

    private static int next(int x) {
        return (int) ((x * 1103515245L + 12345L) % 2147483648L);
    }

    /** The first x whose next DRAW has a rest. */
    private static int seedFor(int rest, int mod) {
        int x = 0;
        while (next(x) / 65536 % mod != rest) {
            x++;
        }
        return x;
    }

    private static void draws() {
        s.says("DRAWS: x (0 to 2147483647; 0 at first) becomes x * 1103515245 + 12345, of 2147483648 the rest; a DRAW is"
                + " x / 65536.");
        s.is("0 at first", new FrontFour().count(11), 0);
        // 12345 / 65536 is 0; then 12345 * 1103515245 + 12345 has the rest 1406932606, which is 21468 times 65536
        String line = "train 2;dest 0 1;stop 99 60;platform 20;rider 0 1 1 0";
        s.is("the first DRAW of 0 is 0", Due.train(line).journeys(1, 1), 159 - (0 + 1));
        int second = 21468 % 160;
        s.is("the second DRAW of 0 is 21468", Due.train(line).journeys(2, 1), 158 + 159 - (second + 1));
        FrontFour x = Due.train(line);
        s.is("the largest x", x.seed(2147483647), 0);
        // (2147483648 - 1) * 1103515245 + 12345: the rest is 2147483648 - 1103515245 + 12345 = 1043980748, DRAW 15929
        s.is("its DRAW is 15929", x.journeys(1, 1), 159 - (15929 % 160 + 1));
        x.seed(1);
        // 1103515245 + 12345 = 1103527590, DRAW 16838
        s.is("the DRAW of 1 is 16838", x.journeys(1, 1), 159 - (16838 % 160 + 1));
    }

    private static void journeys() {
        s.says("JOURNEYS m times (1 to 20): of each RIDER a DRAW mod PARTING and 1:");
        // KNOWS from 16 or later: LOST
        String line = "train 2;dest 0 1;stop 15 5;platform 20;rider 0 1 5 0";
        for (int rest = 0; rest <= 20; rest++) {
            FrontFour x = Due.train(line);
            x.seed(seedFor(rest, 21));
            s.is("LOST by " + rest, x.journeys(1, 0), rest > 15 ? 1 : 0);
            s.is("ahead by " + rest, x.journeys(1, 1), rest > 15 ? 0 : 15 - rest);
        }
        // RIDERS by numbers, JOURNEY by JOURNEY
        for (int m = 1; m <= 20; m++) {
            FrontFour x = Due.train(line + ";rider 0 1 9 0;rider 1 1 1 0");
            x.seed(5);
            int y = 5;
            int lost = 0;
            int ahead = 0;
            for (int i = 0; i < m; i++) {
                int[] paces = {5, 9, 0};
                for (int pace : paces) {
                    y = next(y);
                    int end = y / 65536 % 21 + pace;
                    lost += end > 20 ? 1 : 0;
                    ahead += Math.max(0, 20 - end);
                }
            }
            s.is("LOST of " + m, x.journeys(m, 0), lost);
            s.is("ahead of " + m, x.journeys(m, 1), ahead);
        }
    }

    private static void journeysOfWhoKnows() {
        s.says("from that second they KNOW (if it is later than now):");
        String line = "train 2;dest 0 1;stop 15 5;platform 20;rider 0 1 5 0";
        for (int rest = 9; rest <= 11; rest++) {
            FrontFour x = at(10, line);
            x.seed(seedFor(rest, 21));
            s.is("drawn " + rest + " at 10", x.journeys(1, 1), 15 - Math.max(10, rest));
            x = at(10, line + ";told 0 999");
            x.seed(seedFor(rest, 21));
            s.is("whatever was told", x.journeys(1, 1), 15 - Math.max(10, rest));
        }
        s.says("how many are LOST, seconds that the others' SOONEST are ahead of PARTING (0 at least), all together");
        s.is("can be at PARTING", at(15, line).journeys(1, 0), 0);
        s.is("0 ahead", at(15, line).journeys(1, 1), 0);
        s.is("one behind that", at(16, line).journeys(1, 0), 1);
        s.is("LOST are not ahead", at(16, line).journeys(1, 1), 0);
        s.is("20 times", at(16, line).journeys(20, 0), 20);
        String right = "train 2;stop 15 5;rider 0 0 5 0";
        s.is("right, one ahead", at(19, right).journeys(20, 1), 20 - drawsOfRest20(20));
        s.is("right, at PARTING", at(20, right).journeys(20, 1), 0);
        s.is("right, behind PARTING", at(21, right).journeys(20, 1), 0);
        s.is("is not LOST", at(21, right).journeys(20, 0), 0);
        s.says("(nothing stays; x as it was).");
        FrontFour x = Due.train(line + ";told 0 3");
        x.seed(99);
        x.pass(1);
        String before = Due.state(x);
        int lost = x.journeys(20, 0);
        s.is("the same again", x.journeys(20, 0), lost);
        s.is("nothing stays", Due.state(x).equals(before), true);
        s.is("x as it was", x.count(11), 99);
        s.is("told as it was", x.rider(0, 4), 3);
        s.is("what can be UNDONE, too", x.count(10), 1);
    }

    /** How many of the first DRAWS of 0 have the rest 20 of 21. */
    private static int drawsOfRest20(int draws) {
        int y = 0;
        int found = 0;
        for (int i = 0; i < draws; i++) {
            y = next(y);
            found += y / 65536 % 21 == 20 ? 1 : 0;
        }
        return found;
    }

    private static void putAnswers() {
        s.part("Promise 22");
        s.says("PUT what NONE: how many RIDERS, 0 to 7: DEST of that COACH. -2 without these (no LINE).");
        s.is("no RIDER", Due.train("train 2;stop 1 1").put(-1), 0);
        s.is("all six", Due.train("train 2;stop 1 1" + ";rider 0 1 1 0".repeat(6)).put(-1), 6);
        for (int coaches = 2; coaches <= 8; coaches++) {
            FrontFour x = Due.train("train " + coaches + ";dest 3" + " 2".repeat(coaches - 1) + ";stop 1 1");
            s.is("COACH 0", x.put(0), 2);
            s.is("the last COACH", x.put(coaches - 1), 3);
            s.is("one COACH more", x.put(coaches), -2);
            s.is("what -2", x.put(-2), -2);
            for (int n : FAR) {
                s.is("what " + n, x.put(n), -2);
            }
        }
        s.is("what NONE without a LINE", new FrontFour().put(-1), -2);
        s.is("what 0 without a LINE", new FrontFour().put(0), -2);
    }

    private static void familyAnswers() {
        s.part("Promise 23");
        s.says("FAMILY what 0: the COACH, 1: the second; -2: it can't be; NONE without these (a set that is not empty).");
        for (int riders = 1; riders <= 6; riders++) {
            FrontFour x = Due.passTo(Due.train("train 2;stop 9 9" + ";rider 1 0 1 0".repeat(riders)), 3);
            int all = (1 << riders) - 1;
            s.is("the empty set", x.family(0, 0), -1);
            s.is("the least set", x.family(1, 0), 1);
            s.is("all of them", x.family(all, 0), 1);
            s.is("the second", x.family(all, 1), 3);
            s.is("one who is not there", x.family(all + 1, 0), -1);
            s.is("all and one who is not there", x.family(2 * all + 1, 0), -1);
            s.is("below 0", x.family(-1, 0), -1);
            for (int n : FAR) {
                if (n < 0 || n > 63) {
                    s.is("set " + n, x.family(n, 0), -1);
                }
                s.is("what " + n, x.family(1, n), -1);
            }
            s.is("what -1", x.family(1, -1), -1);
            s.is("what 2", x.family(1, 2), -1);
        }
        FrontFour x = Due.train("train 2;dest 0 1;stop 5 5;platform 20;rider 0 1 10 0;rider 0 1 11 0");
        s.is("it can be", x.family(1, 1), 10);
        s.is("it can't be", x.family(2, 0), -2);
        s.is("its second", x.family(2, 1), -2);
        s.is("what 2 of what can't be", x.family(2, 2), -1);
        s.is("without RIDERS", Due.train("train 2;stop 1 1").family(1, 0), -1);
        s.is("without a LINE", new FrontFour().family(1, 0), -1);
    }

    private static void meetAnswers() {
        s.part("Promise 24");
        s.says("MEET what 0: the WAY, 1: the second; -2: they don't; NONE without these (unlike RIDERS).");
        FrontFour x = at(3, "train 8;stop 60 9;rider 7 0 2 0;rider 0 0 2 0;rider 0 0 2 0");
        s.is("the WAY", x.meet(0, 1, 0), 3);
        s.is("the second", x.meet(0, 1, 1), 9);
        s.is("they don't", x.meet(1, 2, 0), -2);
        s.is("its second", x.meet(1, 2, 1), -2);
        for (int r = 0; r < 3; r++) {
            s.is("oneself", x.meet(r, r, 0), -1);
        }
        int[] riders = {-2, -1, 3, 6};
        for (int r : riders) {
            s.is("one " + r, x.meet(r, 0, 0), -1);
            s.is("other " + r, x.meet(0, r, 0), -1);
        }
        for (int n : FAR) {
            s.is("one " + n, x.meet(n, 0, 0), -1);
            s.is("other " + n, x.meet(0, n, 0), -1);
            s.is("what " + n, x.meet(0, 1, n), -1);
        }
        s.is("what -1", x.meet(0, 1, -1), -1);
        s.is("what 2", x.meet(0, 1, 2), -1);
        s.is("what 2 of those who don't", x.meet(1, 2, 2), -1);
        s.is("without a LINE", new FrontFour().meet(0, 1, 0), -1);
    }

    private static void seenAnswers() {
        s.part("Promise 25");
        s.says("SEEN (rider NONE: nothing is then, 0): how many;");
        FrontFour x = Due.train("train 3;stop 60 9;rider 0 0 5 0;rider 0 0 5 0");
        s.is("none is", x.seen(-1, 0, 0), 0);
        s.is("one", x.seen(0, 0, 5), 1);
        s.is("two", x.seen(1, 2, 5), 2);
        s.is("the same again", x.seen(1, 2, 5), 3);
        s.is("nothing is then", x.seen(-1, 99, -99), 0);
        s.is("none", x.count(9), 0);
        s.is("without a LINE", new FrontFour().seen(-1, 0, 0), 0);
        s.says("-2, and nothing happens, without these, or if there are 12.");
        x.seen(0, 0, 5);
        int[][] wrong = {{-2, 0, 0}, {2, 0, 0}, {6, 0, 0}, {0, -1, 0}, {0, 3, 0}, {0, 8, 0}, {0, 0, -1}, {0, 0, 1000}};
        for (int[] w : wrong) {
            s.is("seen " + w[0] + " " + w[1] + " " + w[2], x.seen(w[0], w[1], w[2]), -2);
        }
        for (int n : FAR) {
            s.is("rider " + n, x.seen(n, 0, 0), -2);
            s.is("coach " + n, x.seen(0, n, 0), -2);
        }
        s.is("a far second", x.seen(0, 0, Integer.MAX_VALUE), -2);
        s.is("a far second below 0", x.seen(0, 0, Integer.MIN_VALUE), -2);
        s.is("one still", x.count(9), 1);
        for (int n = 2; n <= 11; n++) {
            x.seen(0, 0, 5);
        }
        s.is("the twelfth", x.seen(1, 2, 0), 12);
        s.is("a thirteenth", x.seen(1, 0, 0), -2);
        s.is("nothing happens", x.gotIn(1), 4);
        s.is("without a LINE", new FrontFour().seen(0, 0, 0), -2);
    }

    private static void gotInAnswers() {
        s.part("Promise 26");
        s.says("GOT IN, as bits; NONE without them.");
        for (int coaches = 2; coaches <= 8; coaches++) {
            FrontFour x = Due.train("train " + coaches + ";stop 60 9;rider 0 0 5 0");
            s.is("all COACHES", x.gotIn(0), (1 << coaches) - 1);
            x.seen(0, coaches - 1, 0);
            s.is("the last", x.gotIn(0), 1 << coaches - 1);
            x.seen(0, 0, 0);
            s.is("none", x.gotIn(0), 0);
            s.is("one RIDER more", x.gotIn(1), -1);
            s.is("one less", x.gotIn(-1), -1);
            for (int n : FAR) {
                s.is("rider " + n, x.gotIn(n), -1);
            }
        }
        s.is("without a LINE", new FrontFour().gotIn(0), -1);
    }

    private static void sitAnswers() {
        s.part("Promise 27");
        s.says("SIT; -2: there is none; NONE without these (DEST 0 to 3), or a LINE.");
        FrontFour x = Due.train("train 3;dest 3 0 1;stop 1 1;seats 2 0");
        s.is("DEST -1", x.sit(-1), -1);
        s.is("DEST 0", x.sit(0), 1);
        s.is("DEST 1 has no seat", x.sit(1), -2);
        s.is("DEST 2 has no COACH", x.sit(2), -2);
        s.is("DEST 3", x.sit(3), 0);
        s.is("DEST 4", x.sit(4), -1);
        for (int n : FAR) {
            s.is("DEST " + n, x.sit(n), -1);
        }
        s.is("without a LINE", new FrontFour().sit(0), -1);
    }

    private static void seedAnswers() {
        s.part("Promise 28");
        s.says("x becomes a number: what it was; NONE, and nothing happens, below 0.");
        FrontFour x = new FrontFour();
        s.is("1", x.seed(1), 0);
        s.is("2147483646", x.seed(2147483646), 1);
        s.is("2147483647", x.seed(2147483647), 2147483646);
        s.is("-1", x.seed(-1), -1);
        s.is("stays", x.count(11), 2147483647);
        s.is("-2147483648", x.seed(Integer.MIN_VALUE), -1);
        s.is("stays", x.count(11), 2147483647);
        s.is("0", x.seed(0), 2147483647);
        s.is("is 0", x.count(11), 0);
    }

    private static void journeysAnswers() {
        s.part("Promise 29");
        s.says("JOURNEYS what 0: LOST, 1: seconds. NONE without these, or a LINE.");
        FrontFour x = Due.train("train 2;stop 5 5;rider 0 1 1 0;rider 0 0 1 0");
        s.is("1 time", x.journeys(1, 0), 1);
        s.is("2 times", x.journeys(2, 0), 2);
        s.is("19 times", x.journeys(19, 0), 19);
        s.is("20 times", x.journeys(20, 0), 20);
        s.is("seconds", x.journeys(1, 1) >= 0, true);
        int[] times = {-1, 0, 21, 22};
        for (int m : times) {
            s.is(m + " times", x.journeys(m, 0), -1);
            s.is(m + " times, seconds", x.journeys(m, 1), -1);
        }
        s.is("what -1", x.journeys(1, -1), -1);
        s.is("what 2", x.journeys(1, 2), -1);
        for (int n : FAR) {
            s.is(n + " times", x.journeys(n, 0), -1);
            s.is("what " + n, x.journeys(1, n), -1);
        }
        s.is("no RIDER", Due.train("train 2;stop 5 5").journeys(20, 1), 0);
        s.is("without a LINE", new FrontFour().journeys(1, 0), -1);
    }
}
