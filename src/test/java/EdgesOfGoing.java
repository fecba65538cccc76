/** Terms II, sentence by sentence. */
final class EdgesOfGoing {
    private static Sentences s;

    private EdgesOfGoing() {
    }

    static void test(Sentences sentences) {
        s = sentences;
        s.part("Terms II");
        loads();
        insideSeconds();
        outsideSeconds();
        insideCanBegin();
        insideByParting();
        outsideByTheEnd();
        fromPartingOn();
        byHand();
        oneWayOneRider();
        whereTheyAre();
        secondsGoBy();
        shut();
        twentyUndone();
        byARule();
        knowing();
        firstClauseThatMayBeDone();
        insideTowards();
        outsideTo();
        stay();
        thenASecondGoesBy();
        notUndone();
    }

    private static FrontFour at(int second, String line) {
        return Due.passTo(Due.train(line), second);
    }

    private static void loads() {
        s.says("A GOING takes a RIDER with LOADS so many times its seconds (1 without or with one, 3 with two, 5 with three):");
        int[] times = {1, 1, 3, 5};
        for (int loads = 0; loads <= 3; loads++) {
            String line = "train 2;stop 1 60;platform 3;rider 0 0 7 " + loads;
            s.is("INSIDE with " + loads, Due.train(line).inside(0, 1), 7 * times[loads]);
            s.is("OUTSIDE with " + loads, at(1, line).outside(0, 1), 1 + 3 * times[loads]);
        }
    }

    private static void insideSeconds() {
        s.says("INSIDE through a WAY to the COACH beside: PACE;");
        int[] paces = {1, 2, 19, 20};
        for (int pace : paces) {
            FrontFour x = Due.train("train 3;stop 99 60;rider 1 0 " + pace + " 0");
            s.is("ahead", x.inside(0, -1), pace);
            s.is("the COACH beside", x.rider(0, 5), 0);
            x.undo();
            s.is("behind", x.inside(0, 1), pace);
            s.is("the COACH beside", x.rider(0, 5), 2);
        }
        s.is("the longest", Due.train("train 2;stop 99 60;rider 0 0 20 3").inside(0, 1), 100);
        s.is("none ahead of the front", Due.train("train 2;stop 1 1;rider 0 0 1 0").inside(0, -1), -1);
        s.is("none behind the last", Due.train("train 2;stop 1 1;rider 1 0 1 0").inside(0, 1), -1);
    }

    private static void outsideSeconds() {
        s.says("OUTSIDE, while the train HALTS (the begin and the end of the HALT are of it), to a COACH so many COACHES"
                + " along: platform for each.");
        String line = "train 8;stop 10 60;stop 1 1;platform 2;rider 3 0 1 0";
        for (int coach = 0; coach < 8; coach++) {
            int want = coach == 3 ? -1 : 10 + 2 * Math.abs(coach - 3);
            s.is("to " + coach, at(10, line).outside(0, coach), want);
        }
        s.is("one ahead of the begin", at(9, line).outside(0, 2), -1);
        s.is("the begin", at(10, line).outside(0, 2), 12);
        s.is("one behind the begin", at(11, line).outside(0, 2), 13);
        s.is("till the end", at(68, line).outside(0, 2), 70);
        s.is("at the end there is no time", at(70, line).outside(0, 2), -1);
        s.is("but it HALTS", at(70, line).count(6), 0);
        s.is("and not long behind it", at(999, line).count(6), -1);
        String last = "train 8;stop 1 60;platform 20;rider 0 0 1 0;rider 7 0 1 0";
        s.is("three COACHES take 60", at(1, last).outside(0, 3), 61);
        s.is("four are too many", at(1, last).outside(0, 4), -1);
        s.is("ahead as behind", at(1, last).outside(1, 4), 61);
    }

    private static void insideCanBegin() {
        s.says("INSIDE can be begun, if the WAY is not SHUT,");
        String line = "train 4;stop 50 9;shut 1;rider 1 0 1 0;rider 2 0 1 0";
        s.is("SHUT behind", Due.train(line).inside(0, 1), -1);
        s.is("SHUT ahead", Due.train(line).inside(1, -1), -1);
        s.is("the one ahead of it is not", Due.train(line).inside(0, -1), 1);
        s.is("the one behind it is not", Due.train(line).inside(1, 1), 1);
        s.says("its trolley is gone (the second till which it stands there is come),");
        for (int till = 1; till <= 3; till++) {
            String trolley = "train 3;stop 50 9;trolley 0 " + till + ";rider 0 0 5 0;rider 1 0 5 0";
            for (int second = 0; second < 5; second++) {
                int want = second < till ? -1 : second + 5;
                s.is("till " + till + " at " + second, at(second, trolley).inside(0, 1), want);
                s.is("from the other side", at(second, trolley).inside(1, -1), want);
                s.is("another WAY", at(second, trolley).inside(1, 1), second + 5);
            }
        }
        String late = "train 2;stop 50 9;trolley 0 999;rider 0 0 1 0";
        s.is("till 999 at 998", at(998, late).inside(0, 1), -1);
        s.is("till 999 at 999", at(999, late).inside(0, 1), 1000);
    }

    private static void insideByParting() {
        s.says("and, if its COACHES go elsewhere, the GOING ends at PARTING at the latest.");
        String line = "train 3;dest 0 1 1;stop 10 10;rider 0 1 4 0;rider 1 0 4 0;rider 1 1 4 0";
        for (int second = 14; second <= 18; second++) {
            int want = second <= 16 ? second + 4 : -1;
            s.is("elsewhere at " + second, at(second, line).inside(0, 1), want);
            s.is("from the other side at " + second, at(second, line).inside(1, -1), want);
            s.is("not elsewhere at " + second, at(second, line).inside(2, 1), second + 4);
        }
        String loaded = "train 2;dest 0 1;stop 10 10;rider 0 1 4 2;rider 0 1 4 3";
        s.is("with two LOADS at 8", at(8, loaded).inside(0, 1), 20);
        s.is("with two LOADS at 9", at(9, loaded).inside(0, 1), -1);
        s.is("with three at 0", at(0, loaded).inside(1, 1), 20);
        s.is("with three at 1", at(1, loaded).inside(1, 1), -1);
        s.is("where one wants to go does not count", at(17, "train 2;stop 10 10;rider 0 3 4 0").inside(0, 1), 21);
    }

    private static void outsideByTheEnd() {
        s.says("OUTSIDE, if it ends by the end of the HALT.");
        String line = "train 4;dest 0 0 1 1;stop 10 10;stop 5 9;platform 3;rider 0 1 1 0;rider 1 0 1 2";
        s.is("three COACHES, 9, at 10", at(10, line).outside(0, 3), 19);
        s.is("at 11", at(11, line).outside(0, 3), 20);
        s.is("at 12", at(12, line).outside(0, 3), -1);
        s.is("one COACH at 17", at(17, line).outside(0, 1), 20);
        s.is("at 18", at(18, line).outside(0, 1), -1);
        s.is("with two LOADS at 11", at(11, line).outside(1, 2), 20);
        s.is("at 12", at(12, line).outside(1, 2), -1);
        s.is("the HALT of the last STOP at 25", at(25, line).outside(0, 3), 34);
        s.is("at 26", at(26, line).outside(0, 3), -1);
    }

    private static void fromPartingOn() {
        s.says("From PARTING on nobody goes OUTSIDE, and no WAY between COACHES that go elsewhere can be gone through.");
        String line = "train 3;dest 0 0 1;stop 10 10;stop 5 30;parting 0;platform 1;rider 1 0 1 0";
        s.is("OUTSIDE at 19", at(19, line).outside(0, 0), 20);
        s.is("at PARTING", at(20, line).outside(0, 0), -1);
        s.is("at 21", at(21, line).outside(0, 0), -1);
        s.is("in a later HALT", at(25, line).outside(0, 0), -1);
        s.is("in it to a COACH that goes elsewhere", at(26, line).outside(0, 2), -1);
        s.is("INSIDE elsewhere at 19", at(19, line).inside(0, 1), 20);
        s.is("at PARTING", at(20, line).inside(0, 1), -1);
        s.is("at 21", at(21, line).inside(0, 1), -1);
        s.is("at 999", at(999, line).inside(0, 1), -1);
        s.is("not elsewhere at 19", at(19, line).inside(0, -1), 20);
        s.is("not elsewhere at PARTING", at(20, line).inside(0, -1), 21);
        s.is("not elsewhere at 999", at(999, line).inside(0, -1), 1000);
    }

    private static void byHand() {
        s.says("BY HAND a RIDER who does not go is sent INSIDE or OUTSIDE (KNOWING or not);");
        FrontFour x = Due.train("train 4;stop 5 30;rider 1 0 3 0;told 0 999");
        s.is("not KNOWING, INSIDE", x.inside(0, 1), 3);
        s.is("who goes INSIDE is not sent on", x.inside(0, 1), -1);
        s.is("nor back", x.inside(0, -1), -1);
        x.pass(2);
        s.is("one second ahead of the end", x.inside(0, 1), -1);
        x.pass(1);
        s.is("at the end", x.inside(0, 1), 6);
        x.pass(2);
        s.is("who goes INSIDE is not sent OUTSIDE", x.outside(0, 0), -1);
        x.pass(1);
        s.is("not KNOWING, OUTSIDE", x.outside(0, 2), 10);
        s.is("who goes OUTSIDE is not sent on", x.outside(0, 1), -1);
        s.is("nor INSIDE", x.inside(0, -1), -1);
        x.pass(3);
        s.is("one second ahead of the end", x.outside(0, 1), -1);
        x.pass(1);
        s.is("at the end", x.outside(0, 1), 14);
    }

    private static void oneWayOneRider() {
        s.says("besides, a WAY through which another one goes can't be begun till that one is through.");
        for (int second = 0; second <= 4; second++) {
            FrontFour x = Due.train("train 3;stop 50 9;rider 0 0 3 0;rider 0 0 5 0;rider 1 0 5 0");
            x.inside(0, 1);
            Due.passTo(x, second);
            int want = second < 3 ? -1 : second + 5;
            s.is("the same way at " + second, x.inside(1, 1), want);
            if (second >= 3) {
                x.undo();
            }
            s.is("the other way at " + second, x.inside(2, -1), want);
            if (second >= 3) {
                x.undo();
            }
            s.is("another WAY at " + second, x.inside(2, 1), second + 5);
        }
        FrontFour x = Due.train("train 2;stop 5 30;rider 0 0 9 0;rider 1 0 5 0;rider 0 0 5 0");
        Due.passTo(x, 5);
        s.is("OUTSIDE", x.outside(0, 1), 9);
        s.is("is in no WAY", x.inside(1, -1), 10);
        s.is("who goes INSIDE is in no one's way OUTSIDE", x.outside(2, 1), 9);
    }

    private static void whereTheyAre() {
        s.says("While they go they are in the COACH they left; at the second the GOING ends they are in the other one.");
        FrontFour x = Due.train("train 4;dest 0 1 1 1;stop 5 30;rider 0 1 3 0");
        x.inside(0, 1);
        int[] coaches = {0, 0, 0, 1, 1};
        for (int second = 0; second < 5; second++) {
            Due.passTo(x, second);
            s.is("COACH at " + second, x.rider(0, 0), coaches[second]);
            s.is("RIDERS of COACH 0 at " + second, x.coach(0, 2), 1 - coaches[second]);
            s.is("RIDERS of COACH 1 at " + second, x.coach(1, 2), coaches[second]);
            s.is("right at " + second, x.rider(0, 8), coaches[second]);
        }
        Due.passTo(x, 5);
        x.outside(0, 3);
        s.is("OUTSIDE, one ahead of the end", Due.passTo(x, 12).rider(0, 0), 1);
        s.is("OUTSIDE, at the end", Due.passTo(x, 13).rider(0, 0), 3);
        // the end may lie within the seconds that go by at once
        x = Due.train("train 3;stop 5 30;rider 0 0 3 0");
        x.inside(0, 1);
        x.pass(99);
        s.is("long past the end", x.rider(0, 0), 1);
        s.is("and goes no more", x.rider(0, 6), -1);
    }

    private static void secondsGoBy() {
        s.says("A second goes by, or n do.");
        FrontFour x = Due.train("train 2;stop 5 5");
        s.is("a second", x.pass(1), 1);
        s.is("two", x.pass(2), 3);
        s.is("99", x.pass(99), 102);
        s.is("of all three each is one to be UNDONE", x.count(10), 3);
        x.undo();
        s.is("the 99 at once", x.count(4), 3);
    }

    private static void shut() {
        s.says("SHUT: a WAY is SHUT or opened BY HAND (who goes through it goes on).");
        FrontFour x = Due.train("train 3;stop 50 9;shut 1;rider 0 0 3 0;rider 1 0 3 0");
        x.inside(0, 1);
        s.is("SHUT", x.shut(0, true), true);
        s.is("who goes through it", x.way(0, 2), 0);
        s.is("goes on till", x.rider(0, 6), 3);
        s.is("at 2", Due.passTo(x, 2).rider(0, 0), 0);
        s.is("at 3", Due.passTo(x, 3).rider(0, 0), 1);
        s.is("nobody else", x.inside(1, -1), -1);
        s.is("nor back", x.inside(0, -1), -1);
        s.is("opened", x.shut(0, false), true);
        s.is("through it", x.inside(1, -1), 6);
        s.is("one that was told SHUT is opened", x.shut(1, false), true);
        s.is("through it", x.inside(0, 1), 6);
    }

    private static void twentyUndone() {
        s.says("The last 20 of all of these can be UNDONE, the last first.");
        for (int done = 19; done <= 22; done++) {
            FrontFour x = Due.train("train 2;stop 9 9");
            for (int i = 0; i < done; i++) {
                x.pass(1);
            }
            int most = Math.min(done, 20);
            s.is("of " + done, x.count(10), most);
            for (int left = most - 1; left >= 0; left--) {
                s.is("undo", x.undo(), left);
                s.is("second", x.count(4), done - most + left);
            }
            s.is("one more", x.undo(), -1);
            s.is("second", x.count(4), done - most);
        }
        FrontFour x = Due.train("train 3;stop 2 9;shut 1;rider 0 0 2 0;rider 2 0 1 0");
        String[] states = new String[6];
        for (int i = 0; i < 6; i++) {
            states[i] = Due.state(x);
            switch (i) {
                case 0: x.inside(0, 1); break;
                case 1: x.shut(1, false); break;
                case 2: x.pass(2); break;
                case 3: x.outside(1, 1); break;
                case 4: x.shut(0, true); break;
                default: x.pass(9); break;
            }
        }
        for (int i = 5; i >= 0; i--) {
            s.is("of each kind one", x.undo(), i);
            s.is("as ahead of it", Due.state(x).equals(states[i]), true);
        }
    }

    private static void byARule() {
        s.says("BY A RULE n seconds: in each, RIDERS by numbers who do not go and KNOW:");
        FrontFour x = Due.train("train 2;stop 50 9;rider 0 0 2 0;rider 0 0 2 0;rider 0 0 2 0");
        Due.rule(x, "inside 1 if moved=0");
        x.run(0, 1);
        s.is("RIDER 0 in second 0", x.rider(0, 7), 1);
        s.is("not RIDER 1", x.rider(1, 7), 0);
        x.run(0, 1);
        s.is("nor in second 1", x.rider(1, 7), 0);
        x.run(0, 1);
        s.is("RIDER 1 in second 2", x.rider(1, 6), 4);
        s.is("not RIDER 2", x.rider(2, 7), 0);
        x.run(0, 2);
        s.is("RIDER 2 in second 4", x.rider(2, 6), 6);
        // one who goes is not asked, one whose GOING has ended is asked in that second
        x = Due.train("train 8;stop 50 9;rider 0 0 2 0");
        Due.rule(x, "inside 7");
        for (int second = 1; second <= 6; second++) {
            x.run(0, 1);
            s.is("GOINGS begun ahead of " + second, x.rider(0, 7), (second + 1) / 2);
        }
    }

    private static void knowing() {
        s.says("who do not go and KNOW:");
        for (int knows = 0; knows <= 3; knows++) {
            FrontFour x = Due.train("train 2;stop 50 9;rider 0 0 9 0;told 0 " + knows);
            Due.rule(x, "inside 1");
            for (int second = 0; second < 5; second++) {
                x.run(0, 1);
                s.is("told " + knows + ", in second " + second, x.rider(0, 7), second >= knows ? 1 : 0);
            }
        }
    }

    private static void firstClauseThatMayBeDone() {
        s.says("the first CLAUSE without a TEST, or whose TEST holds, that may be done:");
        String[] rules = {"inside 0;inside 2", "inside 0 if 1=1;inside 2", "inside 0 if 1=2;inside 2", "inside 3;inside 2;inside 0",
            "inside 0 if 1=2;inside 2 if 1=2;inside 0", "inside 1;inside 2 if 1=1", "stay if 1=2;inside 2", "outside 0;inside 2",
            "inside 0 if 1=2", "inside 9;outside 0;inside 1"};
        int[] to = {0, 0, 2, 2, 0, 2, 2, 2, -1, -1};
        for (int i = 0; i < rules.length; i++) {
            FrontFour x = Due.train("train 3;stop 50 9;rider 1 0 5 0");
            Due.rule(x, rules[i]);
            x.run(0, 1);
            s.is(rules[i], x.rider(0, 5), to[i]);
        }
        String[] blocked = {"shut 0", "trolley 0 1", "dest 1 0 0;rider 0 0 1 0"};
        for (String clause : blocked) {
            FrontFour x = Due.train("train 3;stop 2 2;rider 1 0 5 0;" + clause);
            Due.rule(x, "inside 0;inside 2");
            x.run(0, 1);
            s.is("blocked by " + clause, x.rider(0, 5), 2);
        }
        FrontFour x = Due.train("train 3;stop 50 9;rider 0 0 5 0;rider 1 0 5 0");
        x.inside(0, 1);
        Due.rule(x, "inside 0;inside 2");
        x.run(0, 1);
        s.is("blocked by another one in the WAY", x.rider(1, 5), 2);
    }

    private static void insideTowards() {
        s.says("inside: towards the COACH the SUM tells (another one there is), one COACH;");
        for (int sum = 0; sum <= 9; sum++) {
            FrontFour x = Due.train("train 8;stop 50 9;rider 4 0 5 0");
            Due.rule(x, "inside " + sum);
            x.run(0, 1);
            int want = sum < 4 ? 3 : sum == 4 || sum > 7 ? -1 : 5;
            s.is("inside " + sum, x.rider(0, 5), want);
        }
        String[] none = {"0-1", "0-2", "coach", "8", "99999", "0-99999*99999"};
        for (String sum : none) {
            FrontFour x = Due.train("train 8;stop 50 9;rider 4 0 5 0");
            Due.rule(x, "inside " + sum);
            x.run(0, 1);
            s.is("inside " + sum, x.rider(0, 7), 0);
        }
        for (int coaches = 2; coaches <= 8; coaches++) {
            FrontFour x = Due.train("train " + coaches + ";stop 50 9;rider 0 0 5 0");
            Due.rule(x, "inside " + coaches);
            Due.rule(x, "inside " + (coaches - 1));
            x.run(0, 1);
            s.is("one COACH more than there is", x.rider(0, 7), 0);
            x.run(1, 1);
            s.is("the last there is", x.rider(0, 7), 1);
        }
    }

    private static void outsideTo() {
        s.says("outside: to that COACH;");
        for (int sum = 0; sum <= 9; sum++) {
            FrontFour x = Due.passTo(Due.train("train 8;stop 5 50;platform 1;rider 4 0 5 0"), 5);
            Due.rule(x, "outside " + sum);
            x.run(0, 1);
            s.is("outside " + sum, x.rider(0, 5), sum == 5 || sum == 3 || sum == 4 || sum > 7 ? -1 : sum);
            s.is("GOINGS", x.rider(0, 7), sum == 4 || sum > 7 ? 0 : 1);
            s.is("COACH", x.rider(0, 0), sum == 3 || sum == 5 ? sum : 4);
        }
        FrontFour x = Due.passTo(Due.train("train 8;stop 5 50;platform 1;rider 4 0 5 0"), 4);
        Due.rule(x, "outside 0-1;outside 0");
        x.run(0, 1);
        s.is("one ahead of the HALT", x.rider(0, 7), 0);
        x.run(0, 1);
        s.is("at its begin", x.rider(0, 6), 9);
    }

    private static void stay() {
        s.says("stay: nothing more is asked.");
        String[] rules = {"stay;inside 1", "stay if 1=1;inside 1", "stay if second<2;inside 1", "stay if second<3;inside 1"};
        int[] moved = {0, 0, 1, 0};
        for (int i = 0; i < rules.length; i++) {
            FrontFour x = Due.train("train 2;stop 50 9;rider 0 0 9 0");
            Due.rule(x, rules[i]);
            x.run(0, 3);
            s.is(rules[i], x.rider(0, 7), moved[i]);
        }
        // of this RIDER: the next one is asked
        FrontFour x = Due.train("train 2;stop 50 9;rider 0 0 9 0;rider 0 0 9 0");
        Due.rule(x, "stay if rider=0;inside 1");
        x.run(0, 1);
        s.is("RIDER 0", x.rider(0, 7), 0);
        s.is("RIDER 1", x.rider(1, 7), 1);
    }

    private static void thenASecondGoesBy() {
        s.says("Then a second goes by.");
        FrontFour x = Due.train("train 2;stop 50 9;rider 0 0 1 0");
        Due.rule(x, "inside 1-coach");
        for (int second = 1; second <= 4; second++) {
            s.is("run", x.run(0, 1), second);
            s.is("a GOING of one second has ended", x.rider(0, 0), second % 2);
        }
        s.is("run 2", x.run(0, 2), 6);
        s.is("run 99", x.run(0, 99), 105);
        s.is("one GOING in each", x.rider(0, 7), 105);
    }

    private static void notUndone() {
        s.says("(These can't be UNDONE: nothing that was done ahead of them can, either.)");
        FrontFour x = Due.train("train 2;stop 50 9;rider 0 0 1 0");
        Due.rule(x, "inside 1");
        x.pass(1);
        x.shut(0, true);
        s.is("ahead of it", x.count(10), 2);
        s.is("a run that can't be", x.run(0, 0), -1);
        s.is("leaves it", x.count(10), 2);
        x.run(0, 1);
        s.is("behind it", x.count(10), 0);
        s.is("undo", x.undo(), -1);
        s.is("SHUT still", x.way(0, 0), 1);
        s.is("second", x.count(4), 2);
        x.pass(1);
        s.is("what is done from then on", x.count(10), 1);
        s.is("undo", x.undo(), 0);
        s.is("no more than that", x.undo(), -1);
        s.is("second", x.count(4), 2);
    }
}
