/** Promises 30 to 32: count, image, back. */
public final class ImageTest {
    public static void main(String[] args) {
        Due due = new Due();
        counting(due);
        halting(due);
        wrongArguments(due);
        goneBackTo(due);
        anotherLine(due);
        without(due);
        due.close();
    }

    private static void counting(Due due) {
        FrontFour x = Due.train("train 3;dest 0 1 1;stop 10 5;stop 10 5;parting 0;rider 0 0 5 0;rider 1 1 5 0;"
                + "rider 0 1 2 0");
        Due.rule(x, "stay");
        Due.rule(x, "stay");
        x.seed(7);
        x.inside(1, -1);
        x.inside(2, 1);
        x.pass(2);
        x.seen(0, 0, 0);
        Due.tell(x, "abc");
        int[] want = {3, 2, 3, 2, 2, 15, -1, 1, 2, 1, 2, 7, 3};
        for (int what = 0; what < want.length; what++) {
            due.is("count " + what, x.count(what), want[what]);
        }
        int[] wrong = {-1, 13, Integer.MIN_VALUE, Integer.MAX_VALUE};
        for (int what : wrong) {
            due.is("count " + what, x.count(what), -1);
        }
        x.pass(3);
        due.is("left their right COACH, in the other now", x.count(8), 1);
        due.is("nobody goes", x.count(7), 0);
    }

    private static void halting(Due due) {
        FrontFour x = Due.train("train 2;stop 2 3;stop 1 1;parting 0");
        int[] want = {-1, -1, 0, 0, 0, 0, 1, 1, -1};
        for (int s = 0; s < want.length; s++) {
            due.is("HALTS at second " + s, x.count(6), want[s]);
            x.pass(1);
        }
    }

    private static void wrongArguments(Due due) {
        FrontFour x = Due.train("train 2;stop 2 3");
        x.pass(4);
        int[] wrong = {-1, 4, Integer.MIN_VALUE, Integer.MAX_VALUE};
        for (int k : wrong) {
            due.is("image " + k, x.image(k), -1);
            due.is("back " + k, x.back(k), -1);
        }
        due.is("back to one never made", x.back(2), -1);
        due.is("nothing happens", x.count(10), 1);
        for (int k = 0; k < 4; k++) {
            due.is("image " + k, x.image(k), 4);
        }
    }

    private static void goneBackTo(Due due) {
        FrontFour x = Due.train("train 3;stop 9 30;shut 1;rider 0 0 5 0;rider 2 0 1 0");
        x.inside(0, 1);
        x.pass(3);
        x.seed(11);
        x.seen(0, 0, 0);
        due.is("image", x.image(0), 3);
        due.is("can still be UNDONE", x.count(10), 2);
        x.pass(9);
        x.shut(1, false);
        x.outside(1, 0);
        x.seed(12);
        x.seen(0, 1, 9);
        Due.rule(x, "stay");
        Due.tell(x, "abc");
        due.is("another image", x.image(3), 12);
        due.is("back", x.back(0), 3);
        int[] want = {3, 1, 2, 1, 3, 39, -1, 1, 2, 1, 0, 11, 3};
        for (int what = 0; what < want.length; what++) {
            due.is("count " + what + " after back", x.count(what), want[what]);
        }
        due.is("SHUT", x.way(1, 0), 1);
        due.is("goes", x.rider(0, 6), 5);
        due.is("through", x.way(0, 2), 0);
        due.is("moved not", x.rider(1, 7), 0);
        due.is("nothing can be UNDONE", x.undo(), -1);
        x.pass(1);
        due.is("back again", x.back(0), 3);
        due.is("back to the other", x.back(3), 12);
        due.is("open", x.way(1, 0), 0);
        due.is("on the platform", x.rider(1, 5), 0);
        due.is("two SEEN", x.count(9), 2);
        due.is("x", x.count(11), 12);
        x.seen(-1, 0, 0);
        x.seen(1, 2, 0);
        x.back(3);
        due.is("SEEN as they were", x.gotIn(1), 7);
        x.image(0);
        x.pass(1);
        due.is("made anew", x.back(0), 12);
    }

    private static void anotherLine(Due due) {
        FrontFour x = Due.train("train 4;dest 0 1 2 3;stop 9 30;trolley 1 8;seats 1 9;rider 0 3 5 2;told 0 77;platform 2");
        x.image(1);
        Due.line(x, "train 2;stop 1 1;stop 1 1;rider 1 0 1 0;rider 0 0 1 0");
        due.is("image outlives a LINE", x.back(1), 0);
        due.is("COACHES", x.count(0), 4);
        due.is("STOPS", x.count(1), 1);
        due.is("RIDERS", x.count(2), 1);
        due.is("PARTING", x.count(5), 39);
        due.is("DEST", x.coach(3, 0), 3);
        due.is("seats", x.coach(1, 1), 9);
        due.is("trolley", x.way(1, 1), 8);
        due.is("KNOWS", x.rider(0, 4), 77);
        due.is("LOADS", x.rider(0, 3), 2);
        due.is("INSIDE as told", x.inside(0, 1), 15);
        x.undo();
        x.pass(9);
        due.is("OUTSIDE as told", x.outside(0, 1), 15);
    }

    private static void without(Due due) {
        FrontFour x = new FrontFour();
        x.seed(3);
        due.is("image without a LINE", x.image(2), 0);
        Due.line(x, "train 2;stop 1 1");
        x.seed(4);
        x.pass(1);
        due.is("back to no LINE", x.back(2), 0);
        due.is("no COACHES", x.count(0), 0);
        due.is("no PARTING", x.count(5), -1);
        due.is("x", x.count(11), 3);
        due.is("lost", x.lost(), -1);
        due.is("pass", x.pass(1), -1);
    }
}
