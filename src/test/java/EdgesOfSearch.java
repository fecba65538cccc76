/** SOONEST to VOICES of Terms III and promises 16 to 21, sentence by sentence. */
final class EdgesOfSearch {
    private static final int[] FAR = {Integer.MIN_VALUE, Integer.MIN_VALUE + 1, -2, -1, 31, 32, 64, Integer.MAX_VALUE};
    private static Sentences s;

    private EdgesOfSearch() {
    }

    static void test(Sentences sentences) {
        s = sentences;
        s.part("Terms III");
        nothingChanges();
        alone();
        whoGoes();
        till999();
        soonest();
        soonestByGoings();
        soonestWaiting();
        row();
        rowOrder();
        rowStillCan();
        latest();
        latestFromWhere();
        lost();
        voice();
        voices();
        soonestAnswers();
        rowAnswers();
        latestAnswers();
        lostAnswers();
        voiceAnswers();
        voicesAnswers();
    }

    private static FrontFour at(int second, String line) {
        return Due.passTo(Due.train(line), second);
    }

    private static void row(FrontFour x, int rider, int[]... goings) {
        for (int k = 0; k < goings.length; k++) {
            for (int what = 0; what < 3; what++) {
                s.is("row " + rider + " " + k + " " + what, x.row(rider, k, what), goings[k][what]);
            }
        }
        for (int what = 0; what < 3; what++) {
            s.is("row " + rider + " ends", x.row(rider, goings.length, what), -2);
        }
    }

    private static int[] inside(int coach, int begin) {
        return new int[] {0, coach, begin};
    }

    private static int[] outside(int coach, int begin) {
        return new int[] {1, coach, begin};
    }

    private static void nothingChanges() {
        s.says("(By what is asked nothing changes.");
        FrontFour x = Due.train("train 4;dest 0 0 1 1;stop 5 9;stop 9 9;trolley 1 9;rider 0 1 2 0;rider 3 0 3 2;told 1 7;"
                + "rider 1 1 4 0");
        x.seed(7);
        x.inside(0, 1);
        x.pass(1);
        x.seen(0, 1, 3);
        String before = Due.state(x);
        for (int a = -1; a < 9; a++) {
            x.soonest(a);
            x.latest(a);
            x.voice(a);
            x.put(a);
            x.gotIn(a);
            x.sit(a);
            for (int b = -1; b < 4; b++) {
                x.row(a, b, 2);
                x.family(a, b);
                x.meet(a, b, 1);
                x.journeys(a, b);
            }
        }
        x.lost();
        x.voices();
        s.is("all is as it was", Due.state(x).equals(before), true);
        s.is("what can be UNDONE, too", x.count(10), 2);
        s.is("undo", x.undo(), 1);
    }

    private static void alone() {
        s.says("Here each RIDER is asked alone: WAYS as SHUT and trolleys as now, nobody else in a WAY;");
        String line = "train 2;dest 0 1;stop 30 5;platform 20;trolley 0 6;rider 0 1 4 0;rider 0 0 20 0";
        FrontFour x = at(6, line);
        s.is("soonest", x.soonest(0), 10);
        x.inside(1, 1);
        s.is("another one in the WAY till 26", x.way(0, 2), 1);
        s.is("is not looked at", x.soonest(0), 10);
        s.is("nor for the ROW", x.row(0, 0, 2), 6);
        s.is("but it can't be begun", x.inside(0, 1), -1);
        x.shut(0, true);
        s.is("SHUT as now", x.soonest(0), -2);
        s.is("latest by it", x.latest(0), -2);
        x.shut(0, false);
        s.is("open as now", x.soonest(0), 10);
        s.is("a trolley till 6 at 5", at(5, line).soonest(0), 10);
        s.is("at 6", at(6, line).soonest(0), 10);
        s.is("at 7", at(7, line).soonest(0), 11);
    }

    private static void whoGoes() {
        s.says("who goes is as at the end of that GOING, not ahead of it.");
        FrontFour x = Due.train("train 3;dest 0 0 1;stop 30 5;platform 20;rider 0 1 4 0");
        s.is("from COACH 0", x.soonest(0), 8);
        x.inside(0, 1);
        s.is("goes to COACH 1", x.soonest(0), 8);
        row(x, 0, inside(2, 4));
        s.is("one second on", Due.passTo(x, 1).soonest(0), 8);
        s.is("one ahead of the end", Due.passTo(x, 3).soonest(0), 8);
        s.is("at the end", Due.passTo(x, 4).soonest(0), 8);
        s.is("one behind the end", Due.passTo(x, 5).soonest(0), 9);
        x.inside(0, -1);
        // back in COACH 0 at 9, then 8 seconds
        s.is("goes the wrong way", x.soonest(0), 17);
        row(x, 0, inside(1, 9), inside(2, 13));
    }

    private static void till999() {
        s.says("999 seconds are looked at most: what would end behind them is not.)");
        String line = "train 2;stop 9 9;rider 0 0 5 0;rider 1 0 5 0";
        for (int second = 993; second <= 995; second++) {
            FrontFour x = at(second, line);
            s.is("meet at " + second, x.meet(0, 1, 1), second <= 994 ? second : -2);
            x.inside(0, 1);
            s.is("a GOING till " + (second + 5), x.soonest(0), second <= 994 ? second + 5 : -2);
            s.is("its ROW", x.row(0, 0, 0), -2);
            s.is("is not LOST", x.lost(), 0);
        }
        s.is("now is 999", at(999, line).soonest(0), 999);
        s.is("KNOWS from 999", at(0, line + ";told 0 999").soonest(0), 999);
        s.is("KNOWS from 998", at(0, line + ";told 0 998").soonest(0), 998);
        // 200 seconds for two COACHES
        String slow = "train 3;stop 9 9;rider 0 0 20 3";
        s.is("meets no one beyond", at(899, slow + ";rider 2 0 20 3").meet(0, 1, 0), -2);
    }

    private static void soonest() {
        s.says("SOONEST of a RIDER: the first second, from now or from when they KNOW, whichever is later,");
        for (int knows = 9; knows <= 11; knows++) {
            String line = "train 2;dest 0 1;stop 30 5;platform 20;rider 0 1 4 0;told 0 " + knows + ";rider 1 1 4 0;told 1 " + knows;
            FrontFour x = at(10, line);
            int from = Math.max(10, knows);
            s.is("KNOWS from " + knows + " at 10", x.soonest(0), from + 4);
            s.is("the ROW begins", x.row(0, 0, 2), from);
            s.is("in the right COACH", x.soonest(1), from);
        }
        s.is("from 0", Due.train("train 2;stop 1 1;rider 0 0 1 0").soonest(0), 0);
        s.says("at which they can be in a COACH that goes to their DEST,");
        String line = "train 5;dest 1 0 0 0 2;stop 60 5;platform 20;rider 2 1 3 0;rider 2 2 3 0;rider 2 0 3 0;rider 2 3 3 0";
        s.is("ahead", Due.train(line).soonest(0), 6);
        s.is("behind", Due.train(line).soonest(1), 6);
        s.is("here", Due.train(line).soonest(2), 0);
        s.is("nowhere", Due.train(line).soonest(3), -2);
        String eight = "train 8;dest 1 0 0 0 0 0 0 2;stop 60 5;platform 20;rider 7 1 2 0;rider 0 2 2 0;rider 7 2 2 0";
        s.is("the front from the last of eight", Due.train(eight).soonest(0), 14);
        row(Due.train(eight), 0, inside(6, 0), inside(5, 2), inside(4, 4), inside(3, 6), inside(2, 8), inside(1, 10),
                inside(0, 12));
        s.is("the last of eight from the front", Due.train(eight).soonest(1), 14);
        row(Due.train(eight), 1, inside(1, 0), inside(2, 2), inside(3, 4), inside(4, 6), inside(5, 8), inside(6, 10),
                inside(7, 12));
        s.is("the last of eight", Due.train(eight).soonest(2), 0);
        String two = "train 5;dest 1 0 0 1 1;stop 60 5;platform 20;rider 2 1 3 0;rider 1 1 3 0";
        s.is("the nearer one behind", Due.train(two).soonest(0), 3);
        s.is("the nearer one ahead", Due.train(two).soonest(1), 3);
    }

    private static void soonestByGoings() {
        s.says("by GOINGS, waiting as they like (from the second from which they may go).");
        // INSIDE ends at PARTING at the latest
        String inside = "train 2;dest 0 1;stop 5 5;platform 20;rider 0 1 4 0";
        s.is("INSIDE from 5", at(5, inside).soonest(0), 9);
        s.is("INSIDE from 6", at(6, inside).soonest(0), 10);
        s.is("INSIDE from 7", at(7, inside).soonest(0), -2);
        // OUTSIDE as long as it fits into a HALT
        String outside = "train 3;dest 0 0 1;stop 5 8;stop 5 9;shut 0;shut 1;platform 4;rider 0 1 4 0";
        s.is("OUTSIDE, waits from 0", at(0, outside).soonest(0), 13);
        s.is("at the begin of the HALT", at(5, outside).soonest(0), 13);
        // from 6 on two COACHES do not fit at once: one, and the other in the next HALT
        s.is("one behind it", at(6, outside).soonest(0), 22);
        s.is("the last that fits for one", at(9, outside).soonest(0), 22);
        s.is("one behind that: two in the next HALT", at(10, outside).soonest(0), 26);
        s.is("the last begin in it", at(19, outside).soonest(0), 27);
        s.is("one behind that", at(20, outside).soonest(0), -2);
    }

    private static void soonestWaiting() {
        s.says("waiting as they like");
        for (int till = 7; till <= 9; till++) {
            String line = "train 3;dest 0 0 1;stop 30 5;platform 20;trolley 1 " + till + ";rider 0 1 8 0";
            s.is("a trolley till " + till, Due.train(line).soonest(0), 8 + Math.max(8, till));
        }
        String last = "train 2;dest 0 1;stop 5 5;platform 20;rider 0 1 4 0;trolley 0 ";
        s.is("a trolley till 5", Due.train(last + 5).soonest(0), 9);
        s.is("a trolley till 6", Due.train(last + 6).soonest(0), 10);
        s.is("a trolley till 7", Due.train(last + 7).soonest(0), -2);
        String halt = "train 2;dest 0 1;stop 9 5;platform 3;rider 0 1 ";
        s.is("INSIDE is sooner than to wait for the HALT", Due.train(halt + "11 0").soonest(0), 11);
        s.is("as soon", Due.train(halt + "12 0").soonest(0), 12);
        s.is("later", Due.train(halt + "13 0").soonest(0), 12);
    }

    private static void row() {
        s.says("The ROW: of all by which they are there then,");
        FrontFour x = Due.train("train 5;dest 0 0 0 0 1;stop 60 5;platform 20;rider 0 1 3 0");
        s.is("soonest", x.soonest(0), 12);
        row(x, 0, inside(1, 0), inside(2, 3), inside(3, 6), inside(4, 9));
        s.is("from 5", Due.passTo(x, 5).soonest(0), 17);
        row(x, 0, inside(1, 5), inside(2, 8), inside(3, 11), inside(4, 14));
        row(Due.train("train 2;stop 9 9;rider 0 0 1 0"), 0);
        row(Due.train("train 2;dest 0 1;stop 9 9;shut 0;platform 10;rider 0 1 1 0"), 0);
        s.says("each begun as soon as it can be.");
        x = Due.train("train 4;dest 0 0 0 1;stop 20 5;stop 5 5;platform 4;trolley 1 9;shut 2;rider 0 1 8 0;told 0 1");
        // in COACH 1 at 9, in COACH 2 at 17, and along the platform from 20
        s.is("soonest", x.soonest(0), 24);
        row(x, 0, inside(1, 1), inside(2, 9), outside(3, 20));
        s.is("behind the begin of the HALT", Due.passTo(x, 22).soonest(0), -2);
    }

    private static void rowOrder() {
        s.says("INSIDE to the COACH ahead (less), INSIDE to the one behind, OUTSIDE to COACHES by numbers;");
        String line = "train 3;dest 1 0 1;stop 1 20;platform 5;rider 1 1 5 0";
        row(at(1, line), 0, inside(0, 1));
        row(at(1, line + ";shut 0"), 0, inside(2, 1));
        row(at(1, line + ";shut 0;shut 1"), 0, outside(0, 1));
        // OUTSIDE to 0 would take two COACHES, to 3 one
        row(at(1, "train 4;dest 1 0 0 1;stop 1 20;platform 5;shut 1;shut 2;rider 2 1 6 0"), 0, outside(3, 1));
        // one second sooner counts more than the order
        row(at(1, "train 3;dest 1 0 1;stop 1 20;platform 4;shut 0;rider 1 1 5 0"), 0, outside(0, 1));
        row(at(1, "train 3;dest 1 0 1;stop 1 20;platform 6;shut 0;rider 1 1 5 0"), 0, inside(2, 1));
    }

    private static void rowStillCan() {
        s.says("at each COACH the first GOING by which they still can:");
        // OUTSIDE from 10, in COACH 2 at 11: till then INSIDE ahead and back, as often as it still can be
        String line = "train 3;dest 0 0 1;stop 10 5;platform 1;shut 1;rider 1 1 ";
        row(Due.train(line + "6 0"), 0, outside(2, 10));
        row(Due.train(line + "5 0"), 0, inside(0, 0), inside(1, 5), outside(2, 10));
        row(Due.train(line + "4 0"), 0, inside(0, 0), inside(1, 4), outside(2, 10));
        row(Due.train(line + "3 0"), 0, inside(0, 0), inside(1, 3), outside(2, 10));
        row(Due.train(line + "2 0"), 0, inside(0, 0), inside(1, 2), inside(0, 4), inside(1, 6), outside(2, 10));
        // the WAY that was free when they set out is found SHUT by the trolley: as soon as it is gone
        row(Due.train("train 3;dest 0 0 1;stop 60 5;platform 20;trolley 1 8;rider 1 1 4 0"), 0,
                inside(0, 0), inside(1, 4), inside(2, 8));
        row(Due.train("train 3;dest 0 0 1;stop 60 5;platform 20;trolley 1 7;rider 1 1 4 0"), 0, inside(2, 7));
        // a long ROW: to and fro, a second each, till the HALT at 99; and later till the trolley is gone at 952
        FrontFour x = Due.train("train 3;dest 0 0 1" + ";stop 99 60".repeat(6) + ";platform 20;trolley 1 952;rider 1 1 1 0");
        s.is("by the first HALT", x.soonest(0), 119);
        for (int k = 0; k < 98; k++) {
            s.is("to and fro, k " + k, x.row(0, k, 1), k % 2);
        }
        s.is("k 98, OUTSIDE", x.row(0, 98, 0), 1);
        s.is("to COACH 2", x.row(0, 98, 1), 2);
        s.is("begun at 99", x.row(0, 98, 2), 99);
        s.is("k 99", x.row(0, 99, 0), -2);
        Due.passTo(x, 936);
        s.is("the last HALT is too short by now", x.soonest(0), 953);
        s.is("k 15", x.row(0, 15, 2), 951);
        s.is("k 16, INSIDE to the right COACH", x.row(0, 16, 1), 2);
        s.is("begun at 952", x.row(0, 16, 2), 952);
        s.is("k 17", x.row(0, 17, 0), -2);
    }

    private static void latest() {
        s.says("LATEST of a RIDER: the last second (0 to PARTING, ahead of now, too) such that, from then on,");
        String line = "train 2;dest 0 1;stop 5 5;platform 20;rider 0 1 4 0;rider 1 1 4 0";
        s.is("of INSIDE", Due.train(line).latest(0), 6);
        s.is("PARTING, if they are right", Due.train(line).latest(1), 10);
        s.is("at 6", at(6, line).latest(0), 6);
        s.is("ahead of now", at(7, line).latest(0), 6);
        s.is("far ahead of now", at(999, line).latest(0), 6);
        s.is("PARTING behind it", at(999, line).latest(1), 10);
        String zero = "train 2;dest 0 1;stop 5 5;platform 20;rider 0 1 ";
        s.is("1", Due.train(zero + "9 0").latest(0), 1);
        s.is("0", Due.train(zero + "10 0").latest(0), 0);
        s.is("ahead of 0 there is none", Due.train(zero + "11 0").latest(0), -2);
        String trolley = "train 2;dest 0 1;stop 5 5;platform 20;rider 0 1 4 0;trolley 0 ";
        s.is("a trolley till 5", Due.train(trolley + 5).latest(0), 6);
        s.is("a trolley till 6", Due.train(trolley + 6).latest(0), 6);
        s.is("a trolley till 7", Due.train(trolley + 7).latest(0), -2);
        String outside = "train 2;dest 0 1;stop 5 5;stop 5 8;shut 0;platform ";
        s.is("OUTSIDE in the last HALT", Due.train(outside + "8;rider 0 1 1 0").latest(0), 15);
        s.is("one second less", Due.train(outside + "7;rider 0 1 1 0").latest(0), 16);
        s.is("one second more", Due.train(outside + "9;rider 0 1 1 0").latest(0), -2);
        s.is("by the PARTING at the STOP ahead", Due.train(outside + "5;parting 0;rider 0 1 1 0").latest(0), 5);
    }

    private static void latestFromWhere() {
        s.says("from where they are now (or would be at the end of their GOING), they can be in a COACH that goes to their"
                + " DEST by PARTING.");
        FrontFour x = Due.train("train 4;dest 0 0 0 1;stop 25 5;platform 20;rider 0 1 4 0;told 0 29");
        s.is("from COACH 0", x.latest(0), 18);
        x.inside(0, 1);
        s.is("from COACH 1, to which they go", x.latest(0), 22);
        Due.passTo(x, 4);
        s.is("from COACH 1", x.latest(0), 22);
        x.inside(0, 1);
        s.is("from COACH 2", x.latest(0), 26);
        Due.passTo(x, 8);
        x.inside(0, 1);
        s.is("to a right one", x.latest(0), 30);
        Due.passTo(x, 12);
        x.inside(0, -1);
        s.is("away from it", x.latest(0), 26);
        s.is("no COACH goes there", Due.train("train 2;stop 5 5;rider 0 1 1 0").latest(0), -2);
        String eight = "train 8;dest 1 0 0 0 0 0 0 2;stop 60 5;platform 20;rider 7 1 2 0;rider 0 2 2 0;rider 7 2 2 0";
        s.is("to the front from the last of eight", Due.train(eight).latest(0), 51);
        s.is("to the last of eight from the front", Due.train(eight).latest(1), 51);
        s.is("in the last of eight", Due.train(eight).latest(2), 65);
    }

    private static void lost() {
        s.says("LOST: RIDERS who are (or go) elsewhere than to a COACH that goes to their DEST, and can not be there by"
                + " SOONEST by PARTING.");
        String line = "train 2;dest 0 1;stop 5 5;platform 20;rider 0 1 4 0";
        s.is("can be at PARTING", at(6, line).lost(), 0);
        s.is("one behind that", at(7, line).lost(), 1);
        s.is("at PARTING", at(10, line).lost(), 1);
        s.is("far behind it", at(999, line).lost(), 1);
        s.is("KNOWS from 6", Due.train(line + ";told 0 6").lost(), 0);
        s.is("KNOWS from 7", Due.train(line + ";told 0 7").lost(), 1);
        FrontFour x = at(6, line);
        x.inside(0, 1);
        s.is("goes there", Due.passTo(x, 9).lost(), 0);
        s.is("is there", Due.passTo(x, 10).lost(), 0);
        s.is("is there far behind PARTING", Due.passTo(x, 999).lost(), 0);
        x = at(6, "train 2;dest 0 1;stop 5 5;platform 20;rider 1 1 4 0;told 0 999");
        s.is("is right, though they KNOW too late", x.lost(), 0);
        x.inside(0, -1);
        s.is("goes away from it", x.lost(), 1);
        x = at(1, "train 2;dest 0 1;stop 5 5;platform 20;rider 1 1 4 0");
        x.inside(0, -1);
        s.is("goes away and can come back by 9", x.lost(), 0);
        x = at(3, "train 2;dest 0 1;stop 5 5;platform 20;rider 1 1 4 0");
        x.inside(0, -1);
        s.is("goes away and can't come back by 11", x.lost(), 1);
    }

    private static void voice() {
        s.says("VOICE in a COACH: of RIDERS there (who is on the way: the COACH to which), not in a COACH that goes to their"
                + " DEST, for whom there is a LATEST: the least.");
        FrontFour x = Due.train("train 3;dest 0 0 1;stop 15 5;platform 20;rider 0 1 3 0;rider 0 1 4 0;rider 0 1 11 0;"
                + "rider 0 0 1 0;rider 2 1 9 0;rider 1 3 1 0");
        s.is("of 14 and 12", x.voice(0), 12);
        s.is("nobody for whom there is a LATEST", x.voice(1), -2);
        s.is("all are right", x.voice(2), -2);
        x.inside(1, 1);
        s.is("who is on the way is not here", x.voice(0), 14);
        s.is("but there", x.voice(1), 16);
        Due.passTo(x, 4);
        s.is("and is there", x.voice(1), 16);
        x.inside(1, 1);
        s.is("on the way to the right one", x.voice(1), -2);
        s.is("there they are right", x.voice(2), -2);
        x.inside(4, -1);
        s.is("away from the right one", x.voice(1), -2);
        x.pass(99);
        s.is("far behind PARTING", x.voice(0), 14);
        FrontFour y = Due.train("train 2;dest 0 1;stop 5 5;platform 20;rider 0 1 10 0;rider 0 1 11 0");
        s.is("0 is a second", y.voice(0), 0);
    }

    private static void voices() {
        s.says("VOICES: all COACHES with such ones.");
        FrontFour x = Due.train("train 4;dest 0 0 0 1;stop 25 5;platform 20;rider 0 1 1 0;rider 2 1 1 0;rider 3 1 1 0;"
                + "rider 1 2 1 0");
        s.is("0 and 2", x.voices(), 5);
        x.inside(0, 1);
        s.is("1 and 2", x.voices(), 6);
        x.inside(1, 1);
        s.is("1", x.voices(), 2);
        x.inside(2, -1);
        s.is("1 still: another one is in the WAY", x.voices(), 2);
        x.pass(1);
        x.inside(2, -1);
        s.is("1 and 2 again", x.voices(), 6);
        s.is("none", Due.train("train 8;stop 1 1;rider 0 0 1 0").voices(), 0);
        x = Due.train("train 8;dest 1 1 1 1 1 1 1 0;stop 99 60;rider 0 0 1 0;rider 1 0 1 0;rider 6 0 1 0;rider 7 1 1 0");
        s.is("the first and the last", x.voices(), 1 | 2 | 64 | 128);
    }

    private static void soonestAnswers() {
        s.part("Promise 16");
        s.says("SOONEST; -2: not so; NONE without them.");
        FrontFour x = Due.train("train 2;dest 0 1;stop 5 5;platform 20;rider 0 1 10 0;rider 0 1 11 0;rider 0 0 1 0");
        s.is("at PARTING", x.soonest(0), 10);
        s.is("one more than there is", x.soonest(1), -2);
        s.is("0", x.soonest(2), 0);
        s.is("one RIDER more", x.soonest(3), -1);
        for (int n : FAR) {
            s.is("soonest " + n, x.soonest(n), -1);
        }
        s.is("without a LINE", new FrontFour().soonest(0), -1);
    }

    private static void rowAnswers() {
        s.part("Promise 17");
        s.says("The ROW, its k-th GOING what 0: 0 INSIDE, 1 OUTSIDE, 1: the COACH to which, 2: the second at which it begins.");
        String line = "train 4;dest 0 0 0 1;stop 20 9;platform 4;shut 2;rider 0 1 3 0;rider 3 1 1 0;rider 0 2 1 0;told 0 13";
        FrontFour x = Due.train(line);
        s.is("soonest", x.soonest(0), 24);
        row(x, 0, inside(1, 13), inside(2, 16), outside(3, 20));
        s.says("-2: not so, or it has not so many; NONE without these (k below 0, too).");
        s.is("k 2, the last", x.row(0, 2, 0), 1);
        s.is("k 3", x.row(0, 3, 0), -2);
        s.is("k 4", x.row(0, 4, 0), -2);
        s.is("a large k", x.row(0, Integer.MAX_VALUE, 0), -2);
        s.is("k -1", x.row(0, -1, 0), -1);
        s.is("k far below 0", x.row(0, Integer.MIN_VALUE, 0), -1);
        s.is("an empty ROW", x.row(1, 0, 0), -2);
        s.is("k -1 of an empty ROW", x.row(1, -1, 0), -1);
        s.is("not so", x.row(2, 0, 0), -2);
        s.is("what 3 of what is not so", x.row(2, 0, 3), -1);
        s.is("what 2", x.row(0, 0, 2), 13);
        s.is("what 3", x.row(0, 0, 3), -1);
        s.is("what 3 behind the ROW", x.row(0, 9, 3), -1);
        s.is("one RIDER more", x.row(3, 0, 0), -1);
        for (int n : FAR) {
            s.is("rider " + n, x.row(n, 0, 0), -1);
            s.is("what " + n, x.row(0, 0, n), -1);
        }
        s.is("without a LINE", new FrontFour().row(0, 0, 0), -1);
    }

    private static void latestAnswers() {
        s.part("Promise 18");
        s.says("LATEST; -2: there is none; NONE without them.");
        FrontFour x = Due.train("train 2;dest 0 1;stop 5 5;platform 20;rider 0 1 10 0;rider 0 1 11 0;rider 0 0 1 0");
        s.is("0", x.latest(0), 0);
        s.is("none", x.latest(1), -2);
        s.is("PARTING", x.latest(2), 10);
        s.is("one RIDER more", x.latest(3), -1);
        for (int n : FAR) {
            s.is("latest " + n, x.latest(n), -1);
        }
        s.is("without a LINE", new FrontFour().latest(0), -1);
    }

    private static void lostAnswers() {
        s.part("Promise 19");
        s.says("LOST, as bits; NONE without a LINE.");
        s.is("nobody", Due.train("train 2;stop 5 5;rider 0 0 1 0").lost(), 0);
        s.is("no RIDER", Due.train("train 2;stop 5 5").lost(), 0);
        s.is("the first and the last", Due.train("train 2;stop 5 5;rider 0 1 1 0" + ";rider 0 0 1 0".repeat(4)
                + ";rider 0 1 1 0").lost(), 33);
        s.is("all six", Due.train("train 2;stop 5 5" + ";rider 0 1 1 0".repeat(6)).lost(), 63);
        s.is("without a LINE", new FrontFour().lost(), -1);
    }

    private static void voiceAnswers() {
        s.part("Promise 20");
        s.says("VOICE; -2: nobody is there for whom; NONE without that COACH.");
        for (int coaches = 2; coaches <= 8; coaches++) {
            FrontFour x = Due.train("train " + coaches + ";dest 1" + " 0".repeat(coaches - 1) + ";stop 99 1;platform 20;"
                    + "rider " + (coaches - 1) + " 1 1 0");
            s.is("the last COACH", x.voice(coaches - 1), 101 - coaches);
            s.is("COACH 0", x.voice(0), -2);
            s.is("one COACH more", x.voice(coaches), -1);
            for (int n : FAR) {
                s.is("voice " + n, x.voice(n), -1);
            }
        }
        s.is("without a LINE", new FrontFour().voice(0), -1);
    }

    private static void voicesAnswers() {
        s.part("Promise 21");
        s.says("VOICES, as bits; NONE without a LINE.");
        s.is("none", Due.train("train 2;stop 5 5").voices(), 0);
        s.is("COACH 0", Due.train("train 2;dest 0 1;stop 5 5;rider 0 1 1 0").voices(), 1);
        s.is("COACH 7", Due.train("train 8;dest 1 0 0 0 0 0 0 0;stop 5 60;rider 7 1 1 0").voices(), 128);
        s.is("without a LINE", new FrontFour().voices(), -1);
    }
}
