/** Promises 10 to 14: inside, outside, pass, shut, undo. */
public final class GoingTest {
    public static void main(String[] args) {
        Due due = new Due();
        inside(due);
        insideThatCannotBe(due);
        insideByPARTING(due);
        oneWayOneRider(due);
        loads(due);
        outside(due);
        outsideTillPARTING(due);
        passing(due);
        shutting(due);
        undoing(due);
        twentyAtMost(due);
        due.close();
    }

    private static void inside(Due due) {
        FrontFour x = Due.train("train 3;stop 50 9;rider 1 0 5 0;rider 0 0 3 1");
        due.is("inside ahead", x.inside(0, -1), 5);
        due.is("in the COACH they left", x.rider(0, 0), 1);
        due.is("to", x.rider(0, 5), 0);
        due.is("ends", x.rider(0, 6), 5);
        due.is("moved", x.rider(0, 7), 1);
        due.is("who", x.way(0, 2), 0);
        due.is("who goes", x.count(7), 1);
        due.is("one who goes can't", x.inside(0, 1), -1);
        due.is("pass 4", x.pass(4), 4);
        due.is("still there", x.rider(0, 0), 1);
        due.is("RIDERS of the COACH left", x.coach(1, 2), 1);
        due.is("pass 1", x.pass(1), 5);
        due.is("there", x.rider(0, 0), 0);
        due.is("goes no more", x.rider(0, 5), -1);
        due.is("ends no more", x.rider(0, 6), -1);
        due.is("nobody in the WAY", x.way(0, 2), -1);
        due.is("moved stays", x.rider(0, 7), 1);
        due.is("with a load behind", x.inside(1, 1), 8);
    }

    private static void insideThatCannotBe(Due due) {
        FrontFour x = Due.train("train 3;stop 50 9;shut 0;trolley 1 4;rider 1 0 5 0;rider 0 0 1 0;rider 2 0 1 0");
        due.is("SHUT", x.inside(0, -1), -1);
        due.is("trolley", x.inside(0, 1), -1);
        due.is("no COACH ahead", x.inside(1, -1), -1);
        due.is("no COACH behind", x.inside(2, 1), -1);
        int[] ways = {0, 2, -2, Integer.MAX_VALUE, Integer.MIN_VALUE};
        for (int way : ways) {
            due.is("way " + way, x.inside(0, way), -1);
        }
        int[] riders = {-1, 3, 6, Integer.MAX_VALUE, Integer.MIN_VALUE};
        for (int rider : riders) {
            due.is("rider " + rider, x.inside(rider, 1), -1);
        }
        due.is("nothing to be UNDONE", x.count(10), 0);
        x.pass(3);
        due.is("trolley till 4 at 3", x.inside(0, 1), -1);
        x.pass(1);
        due.is("trolley till 4 at 4", x.inside(0, 1), 9);
    }

    private static void insideByPARTING(Due due) {
        String line = "train 3;dest 0 1 1;stop 9 5;rider 0 1 4 0;rider 1 1 4 0";
        FrontFour x = Due.train(line);
        x.pass(10);
        due.is("ends at PARTING", x.inside(0, 1), 14);
        x = Due.train(line);
        x.pass(11);
        due.is("would end behind PARTING", x.inside(0, 1), -1);
        due.is("COACHES that go together", x.inside(1, 1), 15);
        x.pass(9);
        due.is("together behind PARTING", x.inside(1, -1), 24);
        due.is("elsewhere behind PARTING", x.inside(0, 1), -1);
        x = Due.train("train 2;stop 1 1;rider 0 0 20 3");
        for (int i = 0; i < 9; i++) {
            x.pass(99);
        }
        x.pass(99);
        x.pass(9);
        due.is("second 999", x.count(4), 999);
        due.is("may end behind 999", x.inside(0, 1), 1099);
        due.is("goes", x.rider(0, 6), 1099);
    }

    private static void oneWayOneRider(Due due) {
        FrontFour x = Due.train("train 3;stop 50 9;rider 0 0 5 0;rider 1 0 2 0;rider 0 0 1 0;told 1 900");
        due.is("the first", x.inside(0, 1), 5);
        due.is("another from the other side", x.inside(1, -1), -1);
        due.is("another from this side", x.inside(2, 1), -1);
        due.is("another WAY, not KNOWING", x.inside(1, 1), 2);
        x.pass(4);
        due.is("not through", x.inside(2, 1), -1);
        x.pass(1);
        due.is("through", x.inside(2, 1), 6);
    }

    private static void loads(Due due) {
        int[] times = {1, 1, 3, 5};
        for (int loads = 0; loads < 4; loads++) {
            FrontFour x = Due.train("train 3;platform 2;stop 1 60;rider 0 0 3 " + loads);
            due.is("INSIDE with " + loads, x.inside(0, 1), 3 * times[loads]);
            x.undo();
            x.pass(1);
            due.is("OUTSIDE with " + loads, x.outside(0, 2), 1 + 4 * times[loads]);
        }
    }

    private static void outside(Due due) {
        FrontFour x = Due.train("train 4;dest 0 0 1 1;stop 10 8;stop 5 5;platform 4;rider 0 1 9 0;rider 3 0 1 0");
        due.is("while it RIDES", x.outside(0, 1), -1);
        x.pass(9);
        due.is("one ahead of the HALT", x.outside(0, 1), -1);
        x.pass(1);
        due.is("to where they are", x.outside(0, 0), -1);
        due.is("three COACHES would take 12", x.outside(0, 3), -1);
        int[] coaches = {-1, 4, 8, Integer.MIN_VALUE, Integer.MAX_VALUE};
        for (int coach : coaches) {
            due.is("coach " + coach, x.outside(0, coach), -1);
        }
        due.is("rider 2", x.outside(2, 0), -1);
        due.is("rider -1", x.outside(-1, 0), -1);
        due.is("at the begin, ends at the end", x.outside(0, 2), 18);
        due.is("in no WAY", x.way(0, 2), -1);
        due.is("one who goes", x.outside(0, 1), -1);
        due.is("one who goes INSIDE", x.inside(0, 1), -1);
        due.is("two may at once", x.outside(1, 1), 18);
        x.pass(8);
        due.is("there", x.rider(0, 0), 2);
        due.is("the other", x.rider(1, 0), 1);
        due.is("from the end nobody", x.outside(0, 1), -1);
        x.pass(5);
        due.is("the next HALT", x.outside(0, 3), 27);
    }

    private static void outsideTillPARTING(Due due) {
        FrontFour x = Due.train("train 2;stop 5 5;stop 5 50;parting 0;platform 1;rider 0 0 1 0");
        x.pass(9);
        due.is("ends at PARTING", x.outside(0, 1), 10);
        x.pass(1);
        due.is("at PARTING", x.outside(0, 0), -1);
        x.pass(10);
        due.is("it HALTS at STOP 1", x.count(6), 1);
        due.is("behind PARTING nobody", x.outside(0, 0), -1);
    }

    private static void passing(Due due) {
        FrontFour x = Due.train("train 2;stop 1 1");
        int[] wrong = {0, -1, 100, Integer.MAX_VALUE, Integer.MIN_VALUE};
        for (int n : wrong) {
            due.is("pass " + n, x.pass(n), -1);
        }
        due.is("second", x.count(4), 0);
        due.is("nothing to be UNDONE", x.count(10), 0);
        for (int i = 1; i <= 10; i++) {
            due.is("pass 99", x.pass(99), 99 * i);
        }
        due.is("pass beyond 999", x.pass(10), -1);
        due.is("pass to 999", x.pass(9), 999);
        due.is("pass from 999", x.pass(1), -1);
    }

    private static void shutting(Due due) {
        FrontFour x = Due.train("train 3;stop 50 9;shut 1;rider 0 0 5 0;rider 1 0 1 0");
        due.is("SHUT that is", x.shut(1, true), false);
        due.is("open that is", x.shut(0, false), false);
        due.is("no WAY 2", x.shut(2, true), false);
        due.is("no WAY -1", x.shut(-1, true), false);
        due.is("no WAY 31", x.shut(31, true), false);
        due.is("no WAY 33", x.shut(33, false), false);
        due.is("nothing to be UNDONE", x.count(10), 0);
        x.inside(0, 1);
        due.is("SHUT", x.shut(0, true), true);
        due.is("is SHUT", x.way(0, 0), 1);
        due.is("who goes goes on", x.rider(0, 6), 5);
        x.pass(5);
        due.is("and is there", x.rider(0, 0), 1);
        due.is("nobody else", x.inside(1, -1), -1);
        due.is("opened", x.shut(1, false), true);
        due.is("is open", x.way(1, 0), 0);
        due.is("through it", x.inside(1, 1), 6);
    }

    private static void undoing(Due due) {
        FrontFour x = Due.train("train 3;stop 2 9;shut 1;rider 0 0 3 0;rider 2 0 1 0");
        due.is("nothing", x.undo(), -1);
        x.inside(0, 1);
        x.pass(3);
        x.shut(1, false);
        x.outside(0, 2);
        x.seen(0, 0, 5);
        x.seed(9);
        x.pass(4);
        due.is("can be UNDONE", x.count(10), 5);
        due.is("moved twice", x.rider(0, 7), 2);
        due.is("in COACH 2", x.rider(0, 0), 2);
        due.is("pass undone", x.undo(), 4);
        due.is("on the way", x.rider(0, 5), 2);
        due.is("till", x.rider(0, 6), 7);
        due.is("outside undone", x.undo(), 3);
        due.is("goes not", x.rider(0, 5), -1);
        due.is("moved once", x.rider(0, 7), 1);
        due.is("shut undone", x.undo(), 2);
        due.is("SHUT again", x.way(1, 0), 1);
        due.is("pass undone", x.undo(), 1);
        due.is("second 0", x.count(4), 0);
        due.is("goes INSIDE", x.way(0, 2), 0);
        due.is("in COACH 0", x.rider(0, 0), 0);
        due.is("inside undone", x.undo(), 0);
        due.is("nobody in the WAY", x.way(0, 2), -1);
        due.is("never moved", x.rider(0, 7), 0);
        due.is("SEEN stays", x.count(9), 1);
        due.is("x stays", x.count(11), 9);
        due.is("nothing more", x.undo(), -1);
        due.is("what can't be is nothing to be UNDONE", x.pass(0) + x.inside(0, 0) + x.outside(0, 0), -3);
        due.is("nothing still", x.undo(), -1);
    }

    private static void twentyAtMost(Due due) {
        FrontFour x = Due.train("train 2;stop 1 1");
        for (int n = 1; n <= 25; n++) {
            x.pass(1);
            due.is("can be UNDONE", x.count(10), Math.min(n, 20));
        }
        for (int n = 19; n >= 0; n--) {
            due.is("undo", x.undo(), n);
            due.is("second", x.count(4), 5 + n);
        }
        due.is("undo the 21st", x.undo(), -1);
        due.is("second 5", x.count(4), 5);
        x.pass(7);
        due.is("one again", x.undo(), 0);
        due.is("second 5 again", x.count(4), 5);
    }
}
