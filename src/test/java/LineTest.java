/** Promises 4 and 6 to 9: line and its FAULTS, and coach, way, stop, rider of what a LINE tells. */
public final class LineTest {
    private static final String WHOLE =
            "train 4;dest 0 0 1 2;stop 10 5;stop 20 10;parting 0;shut 1;trolley 0 30;trolley 0 7;"
            + "seats 2 9;seats 2 0;rider 3 1 2 3;rider 0 0 20 0;told 1 5;told 1 999;platform 6";

    public static void main(String[] args) {
        Due due = new Due();
        told(due);
        leftOut(due);
        wrongArguments(due);
        limits(due);
        faultsOfOneClause(due);
        faultsOfPlaces(due);
        tooManyClauses(due);
        blanks(due);
        inPlaceOfTheOneThereWas(due);
        due.close();
    }

    private static void told(Due due) {
        FrontFour x = Due.train(WHOLE);
        due.is("COACHES", x.count(0), 4);
        due.is("STOPS", x.count(1), 2);
        due.is("RIDERS", x.count(2), 2);
        due.is("PARTING", x.count(5), 15);
        due.is("TAPE is empty", x.count(12), 0);
        int[] dests = {0, 0, 1, 2};
        int[] seats = {4, 4, 0, 4};
        int[] riders = {2, 0, 0, 1};
        for (int c = 0; c < 4; c++) {
            due.is("coach DEST " + c, x.coach(c, 0), dests[c]);
            due.is("coach seats " + c, x.coach(c, 1), seats[c]);
            due.is("coach RIDERS " + c, x.coach(c, 2), riders[c]);
        }
        int[] shut = {0, 1, 0};
        int[] trolley = {7, 0, 0};
        for (int w = 0; w < 3; w++) {
            due.is("way SHUT " + w, x.way(w, 0), shut[w]);
            due.is("way trolley " + w, x.way(w, 1), trolley[w]);
            due.is("way who " + w, x.way(w, 2), -1);
        }
        due.is("stop 0 begin", x.stop(0, 0), 10);
        due.is("stop 0 end", x.stop(0, 1), 15);
        due.is("stop 1 begin", x.stop(1, 0), 35);
        due.is("stop 1 end", x.stop(1, 1), 45);
        int[] first = {3, 1, 2, 3, 0, -1, -1, 0, 0};
        int[] second = {0, 0, 20, 0, 999, -1, -1, 0, 1};
        for (int what = 0; what < 9; what++) {
            due.is("rider 0 " + what, x.rider(0, what), first[what]);
            due.is("rider 1 " + what, x.rider(1, what), second[what]);
        }
    }

    private static void leftOut(Due due) {
        FrontFour x = new FrontFour();
        due.is("no RIDER", Due.line(x, "train 8;stop 99 60;stop 1 1"), 0);
        due.is("PARTING at the last STOP", x.count(5), 161);
        for (int c = 0; c < 8; c++) {
            due.is("DEST 0 without", x.coach(c, 0), 0);
            due.is("seats 4 without", x.coach(c, 1), 4);
        }
        x = Due.train("train 2;dest 0 1;stop 1 9;rider 0 1 1 0");
        x.pass(1);
        due.is("platform 4 without", x.outside(0, 1), 5);
    }

    private static void wrongArguments(Due due) {
        FrontFour x = Due.train(WHOLE);
        int[] wrong = {-1, 9, Integer.MIN_VALUE, Integer.MAX_VALUE};
        for (int w : wrong) {
            due.is("coach what " + w, x.coach(0, w), -1);
            due.is("coach " + w, x.coach(w, 0), -1);
            due.is("way what " + w, x.way(0, w), -2);
            due.is("way " + w, x.way(w, 2), -2);
            due.is("stop what " + w, x.stop(0, w), -1);
            due.is("stop " + w, x.stop(w, 0), -1);
            due.is("rider what " + w, x.rider(0, w), -1);
            due.is("rider " + w, x.rider(w, 0), -1);
        }
        due.is("coach 4 of 4", x.coach(4, 0), -1);
        due.is("coach what 3", x.coach(0, 3), -1);
        due.is("way 3 of 3", x.way(3, 0), -2);
        due.is("way what 3", x.way(0, 3), -2);
        due.is("stop 2 of 2", x.stop(2, 0), -1);
        due.is("stop what 2", x.stop(0, 2), -1);
        due.is("rider 2 of 2", x.rider(2, 0), -1);
    }

    private static void limits(Due due) {
        String six = ";stop 1 1;stop 1 1;stop 1 1;stop 1 1;stop 1 1;stop 1 1";
        String riders = ";rider 0 3 1 0;rider 1 0 20 3;rider 0 0 1 0;rider 0 0 1 0;rider 0 0 1 0;rider 0 0 1 0";
        FrontFour x = new FrontFour();
        due.is("six of each", Due.line(x, "train 2" + six + riders), 6);
        due.is("six STOPS", x.count(1), 6);
        due.is("PARTING", x.count(5), 12);
        due.is("a seventh STOP", Due.line(x, "train 2" + six + ";stop 1 1"), Due.fault(62, 4));
        String full = "train 2;stop 1 1" + riders;
        due.is("a seventh RIDER", Due.line(x, full + ";rider 0 0 1 0"), Due.fault(full.length() + 1, 4));
        due.is("most of all", Due.line(x, "train 8;dest 3 3 3 3 3 3 3 3;stop 99 60;parting 0;shut 6;trolley 6 999;"
                + "seats 7 9;rider 7 3 20 3;told 0 999;platform 20"), 1);
    }

    /** Each CLAUSE behind "train 2;stop 1 1;rider 0 0 1 0;", 32 bytes. */
    private static void faultsOfOneClause(Due due) {
        String[] clauses = {"dest 0", "dest", "dest 0 4", "dest 0 0 0", "stop 0 1", "stop 100 1", "stop 1 0",
            "stop 1 61", "stop 1", "parting 1", "parting", "shut 1", "shut", "shut 0 0", "trolley 1 1",
            "trolley 0 0", "trolley 0 1000", "seats 2 0", "seats 0 10", "seats 0", "rider 2 0 1 0",
            "rider 0 4 1 0", "rider 0 0 0 0", "rider 0 0 21 0", "rider 0 0 1 4", "rider 0 0 1", "told 1 0",
            "told 0 1000", "told 0", "platform 0", "platform 21", "platform", "", "foo", "inside 1", "Stop 1 1",
            "stops 1 1", "stop 123456 1", "stop 12345 1", "dest 0 0 123456", "stop 1,1", "stop 1 1 ;"};
        int[][] faults = {{6, 0}, {4, 0}, {7, 1}, {9, 0}, {5, 1}, {5, 1}, {7, 1},
            {7, 1}, {6, 0}, {8, 1}, {7, 0}, {5, 1}, {4, 0}, {7, 0}, {8, 1},
            {10, 1}, {10, 1}, {6, 1}, {8, 1}, {7, 0}, {6, 1},
            {8, 1}, {10, 1}, {10, 1}, {12, 1}, {11, 0}, {5, 1},
            {7, 1}, {6, 0}, {9, 1}, {9, 1}, {8, 0}, {0, 0}, {0, 0}, {0, 0}, {0, 0},
            {0, 0}, {5, 1}, {5, 1}, {9, 0}, {6, 0}, {10, 0}};
        FrontFour x = new FrontFour();
        String ahead = "train 2;stop 1 1;rider 0 0 1 0;";
        for (int i = 0; i < clauses.length; i++) {
            int want = Due.fault(ahead.length() + faults[i][0], faults[i][1]);
            due.is("line with " + clauses[i], Due.line(x, ahead + clauses[i]), want);
            due.is("nothing of it stands", x.count(0), 0);
            due.is("the TAPE is empty", x.count(12), 0);
        }
    }

    private static void faultsOfPlaces(Due due) {
        FrontFour x = new FrontFour();
        due.is("an empty TAPE", x.line(), Due.fault(0, 0));
        due.is("blanks alone", Due.line(x, "   "), Due.fault(3, 0));
        due.is("train 1", Due.line(x, "train 1;stop 1 1"), Due.fault(6, 1));
        due.is("train 9", Due.line(x, "train 9;stop 1 1"), Due.fault(6, 1));
        due.is("train alone", Due.line(x, "train"), Due.fault(5, 0));
        due.is("without a STOP", Due.line(x, "train 2"), Due.fault(7, 0));
        due.is("without a STOP, a blank", Due.line(x, "train 2 "), Due.fault(8, 0));
        due.is("another ahead of train", Due.line(x, "stop 1 1;train 2"), Due.fault(0, 4));
        due.is("no CLAUSE ahead of train", Due.line(x, ";train 2"), Due.fault(0, 0));
        due.is("a second train", Due.line(x, "train 2;stop 1 1;train 2"), Due.fault(17, 4));
        due.is("a second dest", Due.line(x, "train 2;dest 0 0;dest 0 0;stop 1 1"), Due.fault(17, 4));
        due.is("a second parting", Due.line(x, "train 2;stop 1 1;parting 0;parting 0"), Due.fault(27, 4));
        due.is("a second platform", Due.line(x, "train 2;platform 1;platform 1;stop 1 1"), Due.fault(19, 4));
        due.is("parting ahead of its STOP", Due.line(x, "train 2;parting 0;stop 1 1"), Due.fault(16, 1));
        due.is("told ahead of its RIDER", Due.line(x, "train 2;told 0 5;rider 0 0 1 0;stop 1 1"), Due.fault(13, 1));
        due.is("a NUMBER behind", Due.line(x, "train 2 2;stop 1 1"), Due.fault(8, 0));
        due.is("the first along the text", Due.line(x, "train 2;stop 0 0;stop 100 1"), Due.fault(13, 1));
        due.is("a zero byte", Due.line(x, "train 2;stop 1 1\0"), Due.fault(16, 0));
    }

    private static void tooManyClauses(Due due) {
        StringBuilder forty = new StringBuilder("train 2;stop 1 1");
        for (int n = 2; n < 40; n++) {
            forty.append(";shut 0");
        }
        FrontFour x = new FrontFour();
        due.is("40 CLAUSES", Due.line(x, forty.toString()), 0);
        int place = forty.length() + 1;
        due.is("41 CLAUSES", Due.line(x, forty + ";shut 0"), Due.fault(place, 4));
        due.is("41 with a blank ahead", Due.line(x, forty + "; shut 0"), Due.fault(place + 1, 4));
        due.is("an unknown 41st", Due.line(x, forty + ";shat 0"), Due.fault(place, 0));
        due.is("an empty 41st", Due.line(x, forty + ";"), Due.fault(place, 0));
    }

    private static void blanks(Due due) {
        FrontFour x = new FrontFour();
        due.is("blanks anywhere", Due.line(x, "  train   2 ; stop 1   1 ;rider 0  0 1 0  "), 1);
        due.is("blanks nowhere", Due.line(x, "train2;stop1 1;rider0 0 1 0"), 1);
        due.is("leading zeros", Due.line(x, "train 00002;stop 00001 01"), 0);
        due.is("six digits", Due.line(x, "train 000002;stop 1 1"), Due.fault(6, 1));
        due.is("a blank in a WORD", Due.line(x, "tr ain 2;stop 1 1"), Due.fault(0, 0));
    }

    private static void inPlaceOfTheOneThereWas(Due due) {
        FrontFour x = Due.train(WHOLE);
        Due.rule(x, "stay");
        x.seed(77);
        x.pass(3);
        x.seen(0, 0, 0);
        due.is("a FAULT", Due.line(x, "train 2"), Due.fault(7, 0));
        due.is("second stays", x.count(4), 3);
        due.is("SEEN stay", x.count(9), 1);
        due.is("UNDONE stays", x.count(10), 1);
        due.is("COACHES stay", x.count(0), 4);
        due.is("SHUT stays", x.way(1, 0), 1);
        due.is("told stays", x.rider(1, 4), 999);
        due.is("a new LINE", Due.line(x, "train 3;stop 5 5;rider 2 0 3 1"), 1);
        due.is("second 0", x.count(4), 0);
        due.is("none SEEN", x.count(9), 0);
        due.is("nothing to be UNDONE", x.count(10), 0);
        due.is("undo", x.undo(), -1);
        due.is("x stays", x.count(11), 77);
        due.is("RULES stay", x.count(3), 1);
        due.is("not SHUT", x.way(1, 0), 0);
        due.is("no trolley", x.way(0, 1), 0);
        due.is("KNOWS from 0", x.rider(0, 4), 0);
        due.is("seats", x.coach(2, 1), 4);
        due.is("DEST", x.coach(2, 0), 0);
        due.is("COACH", x.rider(0, 0), 2);
    }
}
