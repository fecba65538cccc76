/** Promises 16 to 21: soonest, row, latest, lost, voice, voices. */
public final class SearchTest {
    public static void main(String[] args) {
        Due due = new Due();
        wrongArguments(due);
        insideAlone(due);
        alongThePlatform(due);
        startOfOneWhoGoes(due);
        rows(due);
        wandering(due);
        latestOnes(due);
        lostOnes(due);
        voices(due);
        till999(due);
        due.close();
    }

    private static void row(Due due, FrontFour x, int rider, int[][] want) {
        for (int k = 0; k < want.length; k++) {
            for (int what = 0; what < 3; what++) {
                due.is("row " + rider + " " + k + " " + what, x.row(rider, k, what), want[k][what]);
            }
        }
        due.is("row has not so many", x.row(rider, want.length, 0), -2);
        due.is("row has not nearly so many", x.row(rider, Integer.MAX_VALUE, 2), -2);
    }

    private static void wrongArguments(Due due) {
        FrontFour x = Due.train("train 2;dest 0 1;stop 9 9;rider 0 1 1 0");
        int[] riders = {-1, 1, 6, Integer.MIN_VALUE, Integer.MAX_VALUE};
        for (int r : riders) {
            due.is("soonest " + r, x.soonest(r), -1);
            due.is("latest " + r, x.latest(r), -1);
            due.is("row " + r, x.row(r, 0, 0), -1);
        }
        due.is("k below 0", x.row(0, -1, 0), -1);
        due.is("k below 0 and more", x.row(0, Integer.MIN_VALUE, 0), -1);
        due.is("what -1", x.row(0, 0, -1), -1);
        due.is("what 3", x.row(0, 0, 3), -1);
        due.is("voice -1", x.voice(-1), -1);
        due.is("voice 2", x.voice(2), -1);
        due.is("nothing changes", x.count(4) + x.rider(0, 7), 0);
    }

    private static void insideAlone(Due due) {
        FrontFour x = Due.train("train 4;dest 0 0 0 1;stop 30 1;platform 20;trolley 1 9;rider 0 1 4 0;rider 3 1 1 0");
        // in COACH 1 at 4, waits there till 9, 13, 17
        due.is("soonest", x.soonest(0), 17);
        row(due, x, 0, new int[][] {{0, 1, 0}, {0, 2, 9}, {0, 3, 13}});
        due.is("is there", x.soonest(1), 0);
        row(due, x, 1, new int[0][]);
        due.is("pass", x.pass(8), 8);
        due.is("is there now", x.soonest(1), 8);
        due.is("soonest from 8", x.soonest(0), 20);
        x.shut(2, true);
        due.is("SHUT", x.soonest(0), -2);
        due.is("no ROW", x.row(0, 0, 0), -2);
    }

    private static void alongThePlatform(Due due) {
        FrontFour x = Due.train("train 4;dest 0 0 0 1;stop 10 11;stop 10 12;platform 4;shut 0;rider 0 1 3 0");
        // 12 seconds along: not in the first HALT; but to COACH 1 there and on INSIDE
        due.is("soonest", x.soonest(0), 20);
        row(due, x, 0, new int[][] {{1, 1, 10}, {0, 2, 14}, {0, 3, 17}});
        x.shut(1, true);
        due.is("two along, then INSIDE", x.soonest(0), 21);
        // to COACH 1 ahead of COACH 2, as they still can
        row(due, x, 0, new int[][] {{1, 1, 10}, {1, 2, 14}, {0, 3, 18}});
        x.shut(2, true);
        // to 1 till 14 and to 2 till 18 in the first HALT, the last in the second: 31 to 35
        due.is("the second HALT", x.soonest(0), 35);
        x.pass(32);
        due.is("too late", x.soonest(0), -2);
    }

    private static void startOfOneWhoGoes(Due due) {
        FrontFour x = Due.train("train 3;dest 0 1 1;stop 40 20;rider 1 1 5 0;told 0 3;rider 0 1 4 0;told 1 9");
        due.is("KNOWS from 9", x.soonest(1), 13);
        due.is("in a right one when they KNOW", x.soonest(0), 3);
        x.inside(0, -1);
        due.is("to a wrong one till 5, back till 10", x.soonest(0), 10);
        row(due, x, 0, new int[][] {{0, 1, 5}});
        x.pass(5);
        x.inside(0, 1);
        due.is("to the right one till 10", x.soonest(0), 10);
        row(due, x, 0, new int[0][]);
        x.pass(30);
        due.is("now", x.soonest(0), 35);
        due.is("from now", x.soonest(1), 39);
        due.is("another in the WAY is not looked at", x.inside(0, -1), 40);
        due.is("the same", x.soonest(1), 39);
    }

    private static void rows(Due due) {
        // from the middle both ways take as long: ahead first
        FrontFour x = Due.train("train 3;dest 1 0 1;stop 50 20;rider 1 1 5 0");
        due.is("soonest", x.soonest(0), 5);
        row(due, x, 0, new int[][] {{0, 0, 0}});
        x.shut(0, true);
        row(due, x, 0, new int[][] {{0, 2, 0}});
        // INSIDE ahead of OUTSIDE, though both are as soon
        x = Due.train("train 2;dest 1 0;stop 1 20;platform 5;rider 1 1 5 0");
        x.pass(1);
        row(due, x, 0, new int[][] {{0, 0, 1}});
        x.shut(0, true);
        row(due, x, 0, new int[][] {{1, 0, 1}});
        // OUTSIDE to COACHES by numbers: to 0 and to 2 are as soon
        x = Due.train("train 3;dest 1 0 1;stop 4 20;platform 2;shut 0;shut 1;rider 1 1 5 0");
        row(due, x, 0, new int[][] {{1, 0, 4}});
    }

    private static void wandering(Due due) {
        // SOONEST is by the platform at 10; till then INSIDE ahead and back can still be
        FrontFour x = Due.train("train 3;dest 0 0 1;stop 10 5;platform 1;shut 1;rider 1 1 3 0");
        due.is("soonest", x.soonest(0), 11);
        row(due, x, 0, new int[][] {{0, 0, 0}, {0, 1, 3}, {1, 2, 10}});
        // with PACE 2 twice to and fro
        x = Due.train("train 3;dest 0 0 1;stop 10 5;platform 1;shut 1;rider 1 1 2 0");
        row(due, x, 0, new int[][] {{0, 0, 0}, {0, 1, 2}, {0, 0, 4}, {0, 1, 6}, {1, 2, 10}});
    }

    private static void latestOnes(Due due) {
        FrontFour x = Due.train("train 4;dest 0 0 0 1;stop 30 10;trolley 2 20;platform 4;rider 0 1 3 0;rider 3 1 1 0;"
                + "rider 2 2 1 0");
        // INSIDE 9 seconds by 40
        due.is("latest", x.latest(0), 31);
        due.is("of one who is right", x.latest(1), 40);
        due.is("of one who goes nowhere", x.latest(2), -2);
        x.pass(35);
        due.is("ahead of now, too", x.latest(0), 31);
        x.shut(2, true);
        // by the platform from COACH 2 at 36, or from COACH 1 at 32, so INSIDE from 30
        due.is("by the platform", x.latest(0), 30);
        x.shut(0, true);
        x.shut(1, true);
        due.is("12 seconds along 10", x.latest(0), -2);
        FrontFour y = Due.train("train 2;dest 0 1;stop 30 10;platform 20;trolley 0 39;rider 0 1 1 0;rider 0 1 2 0");
        due.is("trolley till 39", y.latest(0), 39);
        due.is("not with PACE 2", y.latest(1), -2);
        FrontFour w = Due.train("train 2;dest 0 1;stop 1 1;platform 20;rider 0 1 2 0;rider 0 1 3 0");
        due.is("at second 0", w.latest(0), 0);
        due.is("ahead of second 0 is none", w.latest(1), -2);
        due.is("voice at second 0", w.voice(0), 0);
        due.is("and in the COACHES", w.voices(), 1);
        FrontFour z = Due.train("train 3;dest 0 0 1;stop 30 10;rider 0 1 4 0;told 0 999");
        due.is("KNOWING or not", z.latest(0), 32);
        z.inside(0, 1);
        due.is("from where they would be", z.latest(0), 36);
    }

    private static void lostOnes(Due due) {
        String riders = "rider 0 1 4 0;rider 0 1 4 0;told 1 7;rider 0 1 4 0;told 2 6;rider 1 1 9 0;told 3 999;"
                + "rider 0 3 1 0;rider 0 0 1 0";
        FrontFour x = Due.train("train 2;dest 0 1;stop 5 5;platform 9;" + riders);
        due.is("7 and 4 is behind 10, 6 and 4 not, none goes to 3", x.lost(), 1 << 1 | 1 << 4);
        x.pass(6);
        due.is("from 6", x.lost(), 1 << 1 | 1 << 4);
        due.is("begun by hand, KNOWING or not", x.inside(1, 1), 10);
        due.is("who goes there is not LOST", x.lost(), 1 << 4);
        x.pass(1);
        due.is("from 7", x.lost(), 1 | 1 << 2 | 1 << 4);
        x.pass(90);
        due.is("behind PARTING", x.lost(), 1 | 1 << 2 | 1 << 4);
        due.is("nobody in it", Due.train("train 2;stop 5 5").lost(), 0);
        // COACHES that go together can be changed behind PARTING, but that is too late
        FrontFour y = Due.train("train 2;stop 5 5;rider 0 0 1 0");
        y.pass(50);
        due.is("right is never LOST", y.lost(), 0);
    }

    private static void voices(Due due) {
        FrontFour x = Due.train("train 4;dest 0 0 0 1;stop 20 10;platform 20;rider 0 1 2 0;rider 0 1 4 0;rider 2 1 3 0;"
                + "rider 3 1 1 0;rider 1 3 1 0;rider 1 0 1 0");
        due.is("the least of two", x.voice(0), 18);
        due.is("one who can't and one who is right", x.voice(1), -2);
        due.is("coach 2", x.voice(2), 27);
        due.is("coach 3 all right", x.voice(3), -2);
        due.is("voices", x.voices(), 5);
        x.inside(1, 1);
        due.is("who is on the way is there", x.voice(1), 22);
        due.is("and not here", x.voice(0), 24);
        due.is("voices", x.voices(), 7);
        x.inside(2, 1);
        due.is("on the way to the right one", x.voices(), 3);
        x.pass(60);
        due.is("ahead of now, too", x.voices(), 3);
        due.is("the same", x.voice(0), 24);
    }

    private static void till999(Due due) {
        FrontFour x = Due.train("train 3;dest 1 1 0;stop 9 9;platform 20;trolley 0 990;rider 0 0 9 0;rider 2 1 1 0;told 1 999");
        due.is("parted too soon", x.soonest(0), -2);
        due.is("KNOWS too late", x.soonest(1), -2);
        FrontFour y = Due.train("train 2;stop 9 9;rider 0 0 20 3;rider 0 1 20 3");
        for (int i = 0; i < 10; i++) {
            y.pass(99);
        }
        y.inside(0, 1);
        due.is("what ends behind 999 is not", y.soonest(0), -2);
        due.is("nor is its ROW", y.row(0, 0, 0), -2);
        due.is("but it goes to a right one", y.lost(), 2);
        y = Due.train("train 2;stop 9 9;rider 0 0 20 3;rider 0 0 9 0;rider 1 0 10 0");
        for (int i = 0; i < 10; i++) {
            y.pass(99);
        }
        y.inside(1, 1);
        due.is("what ends at 999 is", y.soonest(1), 999);
        y.pass(9);
        due.is("now is 999", y.soonest(0), 999);
        FrontFour z = Due.train("train 2;stop 9 9;rider 0 0 9 0;rider 1 0 10 0");
        for (int i = 0; i < 10; i++) {
            z.pass(99);
        }
        due.is("one who would end at 1000 is not met", z.meet(0, 1, 0), -2);
        z = Due.train("train 2;stop 9 9;rider 0 0 9 0;rider 1 0 9 0");
        for (int i = 0; i < 10; i++) {
            z.pass(99);
        }
        due.is("who would end at 999 is", z.meet(0, 1, 1), 990);
        z.shut(0, true);
        z.seen(0, 0, 999);
        due.is("SEEN at 999", z.gotIn(0), 3);
    }
}
