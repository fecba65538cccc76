/** Promise 15: run. */
public final class RunTest {
    public static void main(String[] args) {
        Due due = new Due();
        wrongArguments(due);
        firstThatMayBeDone(due);
        insideOneCoach(due);
        sumsThatAreNoCoach(due);
        outsideAtOnce(due);
        ridersByNumbers(due);
        knowing(due);
        whoGoes(due);
        nothingUndone(due);
        due.close();
    }

    private static void wrongArguments(Due due) {
        FrontFour x = Due.train("train 2;stop 9 9;rider 0 0 1 0");
        due.is("no RULE", x.run(0, 1), -1);
        Due.rule(x, "inside 1");
        x.pass(5);
        int[] seconds = {0, -1, 100, Integer.MIN_VALUE, Integer.MAX_VALUE};
        for (int n : seconds) {
            due.is("run 0 " + n, x.run(0, n), -1);
        }
        int[] rules = {-1, 1, 6, Integer.MIN_VALUE, Integer.MAX_VALUE};
        for (int rule : rules) {
            due.is("run " + rule, x.run(rule, 1), -1);
        }
        due.is("nobody moved", x.rider(0, 7), 0);
        due.is("still to be UNDONE", x.count(10), 1);
        due.is("run 99", x.run(0, 99), 104);
        for (int i = 0; i < 9; i++) {
            x.run(0, 99);
        }
        due.is("second", x.count(4), 995);
        due.is("beyond 999", x.run(0, 5), -1);
        due.is("to 999", x.run(0, 4), 999);
    }

    private static void firstThatMayBeDone(Due due) {
        String line = "train 3;stop 20 20;shut 1;rider 1 0 2 0";
        FrontFour x = Due.train(line);
        Due.rule(x, "inside 2;inside 0 if 1=2;inside 0 if coach=1;stay");
        x.run(0, 1);
        due.is("the third", x.rider(0, 5), 0);
        x = Due.train(line);
        Due.rule(x, "stay;inside 0");
        x.run(0, 9);
        due.is("stay ends it", x.rider(0, 7), 0);
        x = Due.train(line);
        Due.rule(x, "stay if second<3;inside 0 if moved=0");
        x.run(0, 3);
        due.is("not yet", x.rider(0, 7), 0);
        x.run(0, 1);
        due.is("now", x.rider(0, 7), 1);
        due.is("begun at 3", x.rider(0, 6), 5);
        x = Due.train(line);
        Due.rule(x, "inside 2");
        due.is("none may be done", x.run(0, 9), 9);
        due.is("nobody moved", x.rider(0, 7), 0);
    }

    private static void insideOneCoach(Due due) {
        FrontFour x = Due.train("train 8;stop 50 20;rider 0 0 2 0;rider 7 0 3 0");
        Due.rule(x, "inside 6 if rider=0;inside 1 if rider=1");
        x.run(0, 1);
        due.is("one COACH behind", x.rider(0, 5), 1);
        due.is("one COACH ahead", x.rider(1, 5), 6);
        x.run(0, 1);
        due.is("there at 2", x.rider(0, 0), 1);
        x.run(0, 1);
        due.is("and on", x.rider(0, 5), 2);
        due.is("moved", x.rider(0, 7), 2);
        x.run(0, 60);
        due.is("in 6", x.rider(0, 0), 6);
        due.is("in 1", x.rider(1, 0), 1);
        due.is("no more than 6 GOINGS", x.rider(0, 7), 6);
    }

    private static void sumsThatAreNoCoach(Due due) {
        String[] sums = {"3", "0-1", "coach", "99999", "99999*99999*99999*99999", "0-99999*99999*99999"};
        for (String sum : sums) {
            FrontFour x = Due.train("train 3;stop 1 60;rider 1 0 1 0");
            Due.rule(x, "inside " + sum + ";outside " + sum);
            x.run(0, 30);
            due.is("no COACH " + sum, x.rider(0, 7), 0);
        }
        // 65536 * 65536 = 2 to the 32: only its low half is a COACH
        FrontFour x = Due.train("train 3;stop 1 60;rider 1 0 1 0");
        Due.rule(x, "inside 65536*65536;outside 65536*65536+2");
        x.run(0, 30);
        due.is("all 64 bits count", x.rider(0, 7), 0);
    }

    private static void outsideAtOnce(Due due) {
        FrontFour x = Due.train("train 4;stop 5 12;platform 4;rider 0 0 1 0;rider 0 0 1 1");
        Due.rule(x, "outside 3 if rider=0;outside 2");
        x.run(0, 5);
        due.is("not while it RIDES", x.rider(0, 7), 0);
        x.run(0, 1);
        due.is("to 3", x.rider(0, 6), 17);
        due.is("to 2", x.rider(1, 6), 13);
        x.run(0, 8);
        due.is("there", x.rider(1, 0), 2);
        due.is("on the way", x.rider(0, 0), 0);
    }

    private static void ridersByNumbers(Due due) {
        FrontFour x = Due.train("train 2;stop 50 20;rider 0 0 2 0;rider 1 0 2 0;rider 0 0 2 0");
        Due.rule(x, "inside 1-coach if moved=0");
        x.run(0, 1);
        due.is("the first goes", x.way(0, 2), 0);
        due.is("the second not", x.rider(1, 7), 0);
        x.run(0, 1);
        due.is("free again", x.way(0, 2), -1);
        x.run(0, 1);
        due.is("the second", x.way(0, 2), 1);
        x.run(0, 2);
        due.is("the third", x.way(0, 2), 2);
        // who goes in this second is seen by the next rider in it
        x = Due.train("train 3;stop 50 20;rider 0 0 2 0;rider 1 0 2 0");
        Due.rule(x, "inside 0 if rider=1;inside 2 if rider=1;inside 1 if rider=0");
        x.run(0, 1);
        due.is("through the other WAY", x.rider(1, 5), 2);
    }

    private static void knowing(Due due) {
        FrontFour x = Due.train("train 2;stop 50 20;rider 0 0 2 0;told 0 5");
        Due.rule(x, "inside 1");
        x.run(0, 5);
        due.is("KNOWS not at 4", x.rider(0, 7), 0);
        x.run(0, 1);
        due.is("KNOWS at 5", x.rider(0, 6), 7);
    }

    private static void whoGoes(Due due) {
        FrontFour x = Due.train("train 3;stop 50 20;rider 0 0 5 0");
        x.inside(0, 1);
        Due.rule(x, "inside 2");
        x.run(0, 5);
        due.is("goes on by hand", x.rider(0, 7), 1);
        due.is("is there", x.rider(0, 0), 1);
        x.run(0, 1);
        due.is("now by the RULE", x.rider(0, 6), 10);
    }

    private static void nothingUndone(Due due) {
        FrontFour x = Due.train("train 3;stop 50 20;rider 0 0 5 0");
        Due.rule(x, "stay");
        x.pass(1);
        x.pass(1);
        x.run(0, 1);
        due.is("nothing can be UNDONE", x.count(10), 0);
        due.is("undo", x.undo(), -1);
        x.pass(1);
        due.is("from then on", x.undo(), 0);
        due.is("second", x.count(4), 3);
    }
}
