/** Promises 25 to 27: seen, gotIn, sit. */
public final class SeenTest {
    public static void main(String[] args) {
        Due due = new Due();
        twelve(due);
        wrongArguments(due);
        gotIn(due);
        gotInByMore(due);
        sitting(due);
        due.close();
    }

    private static void twelve(Due due) {
        FrontFour x = Due.train("train 2;stop 9 9;rider 0 0 1 0;rider 0 0 1 0");
        for (int n = 1; n <= 12; n++) {
            due.is("seen " + n, x.seen(n % 2, n % 2, 10 * n), n);
        }
        due.is("a 13th", x.seen(0, 0, 1), -2);
        due.is("twelve", x.count(9), 12);
        due.is("nothing is then", x.seen(-1, -5, -5), 0);
        due.is("none", x.count(9), 0);
        due.is("one again", x.seen(0, 0, 0), 1);
    }

    private static void wrongArguments(Due due) {
        FrontFour x = Due.train("train 2;stop 9 9;rider 0 0 1 0");
        int[][] wrong = {{1, 0, 0}, {-2, 0, 0}, {0, -1, 0}, {0, 2, 0}, {0, 0, -1}, {0, 0, 1000},
            {Integer.MAX_VALUE, 0, 0}, {0, Integer.MAX_VALUE, 0}, {0, 0, Integer.MAX_VALUE}, {Integer.MIN_VALUE, 0, 0}};
        for (int[] w : wrong) {
            due.is("seen " + w[0] + " " + w[1] + " " + w[2], x.seen(w[0], w[1], w[2]), -2);
        }
        due.is("none", x.count(9), 0);
        due.is("second 999", x.seen(0, 1, 999), 1);
        due.is("second 0", x.seen(0, 1, 0), 2);
        due.is("gotIn 1", x.gotIn(1), -1);
        due.is("gotIn -1", x.gotIn(-1), -1);
        due.is("gotIn most", x.gotIn(Integer.MAX_VALUE), -1);
    }

    private static void gotIn(Due due) {
        FrontFour x = Due.train("train 4;stop 50 5;shut 2;rider 0 0 5 0;told 0 900;rider 0 0 5 0");
        due.is("not SEEN", x.gotIn(0), 15);
        x.seen(0, 1, 5);
        due.is("one COACH in 5", x.gotIn(0), 7);
        due.is("another RIDER", x.gotIn(1), 15);
        x.seen(-1, 0, 0);
        x.seen(0, 1, 4);
        due.is("none in 4", x.gotIn(0), 2);
        x.seen(-1, 0, 0);
        x.seen(0, 1, 0);
        due.is("at second 0", x.gotIn(0), 2);
        x.seen(-1, 0, 0);
        x.seen(0, 2, 10);
        due.is("two in 10, and the SHUT WAY not", x.gotIn(0), 7);
        x.shut(2, false);
        due.is("WAYS as now", x.gotIn(0), 15);
        x.seen(-1, 0, 0);
        x.seen(0, 3, 54);
        // along the platform from 50 on, 4 for one COACH
        due.is("INSIDE from all", x.gotIn(0), 15);
        x.shut(0, true);
        due.is("INSIDE from 1 to 3", x.gotIn(0), 14);
        x.shut(1, true);
        x.shut(2, true);
        due.is("OUTSIDE from 2", x.gotIn(0), 12);
    }

    private static void gotInByMore(Due due) {
        FrontFour x = Due.train("train 4;stop 50 5;rider 0 0 5 0");
        x.seen(0, 3, 20);
        x.seen(0, 1, 10);
        due.is("told in any order", x.gotIn(0), 15);
        x.seen(0, 1, 11);
        due.is("9 seconds for two COACHES", x.gotIn(0), 0);
        FrontFour y = Due.train("train 4;stop 50 5;rider 0 0 5 0");
        y.seen(0, 0, 5);
        y.seen(0, 1, 5);
        due.is("in two COACHES at once", y.gotIn(0), 0);
        FrontFour z = Due.train("train 4;stop 50 5;rider 0 0 5 0");
        z.seen(0, 1, 5);
        z.seen(0, 1, 5);
        z.seen(0, 2, 10);
        due.is("begun at the second", z.gotIn(0), 7);
        FrontFour w = Due.train("train 2;dest 0 1;stop 5 5;platform 9;rider 0 0 5 0");
        w.seen(0, 1, 10);
        due.is("by PARTING", w.gotIn(0), 3);
        w.seen(0, 0, 6);
        due.is("parted", w.gotIn(0), 0);
    }

    private static void sitting(Due due) {
        FrontFour x = Due.train("train 5;dest 0 0 1 1 0;stop 9 9;seats 0 2;seats 1 3;seats 4 3;seats 2 0;seats 3 1;"
                + "rider 0 0 1 0;rider 3 2 5 0");
        due.is("of several the least", x.sit(0), 1);
        due.is("none above 0", x.sit(1), -2);
        due.is("none goes there", x.sit(2), -2);
        due.is("nor there", x.sit(3), -2);
        int[] wrong = {-1, 4, Integer.MIN_VALUE, Integer.MAX_VALUE};
        for (int dest : wrong) {
            due.is("sit " + dest, x.sit(dest), -1);
        }
        x.inside(0, 1);
        due.is("who goes is in the COACH left", x.sit(0), 1);
        x.pass(1);
        due.is("and then in the other", x.sit(0), 4);
        x.inside(1, 1);
        x.pass(5);
        due.is("free again", x.sit(1), 3);
    }
}
