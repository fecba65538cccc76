/** Promises 28 and 29: seed, journeys. */
public final class JourneysTest {
    public static void main(String[] args) {
        Due due = new Due();
        seeding(due);
        byHand(due);
        fromNow(due);
        nothingStays(due);
        due.close();
    }

    private static void seeding(Due due) {
        FrontFour x = new FrontFour();
        due.is("0 at first", x.seed(5), 0);
        due.is("what it was", x.seed(Integer.MAX_VALUE), 5);
        due.is("below 0", x.seed(-1), -1);
        due.is("far below 0", x.seed(Integer.MIN_VALUE), -1);
        due.is("stays", x.count(11), Integer.MAX_VALUE);
        due.is("0 again", x.seed(0), Integer.MAX_VALUE);
    }

    private static void byHand(Due due) {
        // PARTING 20, one RIDER with PACE 5: LOST if they KNOW from 16 on
        String line = "train 2;dest 0 1;stop 15 5;platform 20;rider 0 1 5 0";
        long[] seeds = {0, 1, 77, 2147483647};
        for (long seed : seeds) {
            FrontFour x = Due.train(line);
            x.seed((int) seed);
            long y = seed;
            int lost = 0;
            int ahead = 0;
            for (int m = 1; m <= 20; m++) {
                y = (y * 1103515245L + 12345L) % 2147483648L;
                int knows = (int) (y / 65536 % 21);
                lost += knows > 15 ? 1 : 0;
                ahead += knows > 15 ? 0 : 20 - (knows + 5);
                due.is("journeys " + m, x.journeys(m, 0), lost);
                due.is("seconds " + m, x.journeys(m, 1), ahead);
            }
        }
        // the first DRAW from 0 is 12345 / 65536 = 0: KNOWS from 0, 15 ahead
        due.is("the first DRAW", Due.train(line).journeys(1, 1), 15);
    }

    private static void fromNow(Due due) {
        FrontFour x = Due.train("train 2;dest 0 1;stop 15 5;platform 20;rider 0 1 5 0;rider 1 1 1 0;rider 0 3 1 0");
        x.pass(15);
        // the DRAWS are 0, 6028 % 21 = 1, and any: from now on all of them
        due.is("LOST is the third", x.journeys(1, 0), 1);
        due.is("0 and 5 ahead", x.journeys(1, 1), 5);
        x.inside(0, 1);
        due.is("who goes", x.journeys(1, 1), 5);
        x.pass(30);
        due.is("0 at least", x.journeys(1, 1), 0);
        int[] wrong = {0, -1, 21, Integer.MIN_VALUE, Integer.MAX_VALUE};
        for (int m : wrong) {
            due.is("journeys " + m, x.journeys(m, 0), -1);
        }
        due.is("what -1", x.journeys(1, -1), -1);
        due.is("what 2", x.journeys(1, 2), -1);
        due.is("no RIDER", Due.train("train 2;stop 9 9").journeys(20, 0), 0);
    }

    private static void nothingStays(Due due) {
        FrontFour x = Due.train("train 2;dest 0 1;stop 15 5;rider 0 1 5 0;told 0 3");
        x.seed(99);
        int first = x.journeys(20, 1);
        due.is("the same again", x.journeys(20, 1), first);
        due.is("x as it was", x.count(11), 99);
        due.is("told as it was", x.rider(0, 4), 3);
        due.is("second as it was", x.count(4), 0);
    }
}
