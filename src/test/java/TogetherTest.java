/** Promises 22 to 24: put, family, meet. */
public final class TogetherTest {
    public static void main(String[] args) {
        Due due = new Due();
        putting(due);
        puttingWhoGoes(due);
        families(due);
        familiesThatCannotBe(due);
        meetings(due);
        meetingsThatAreNot(due);
        due.close();
    }

    private static void order(Due due, FrontFour x, int misplaced, int... dests) {
        due.is("put NONE", x.put(-1), misplaced);
        for (int c = 0; c < dests.length; c++) {
            due.is("put " + c, x.put(c), dests[c]);
        }
        int[] wrong = {-2, dests.length, 8, Integer.MIN_VALUE, Integer.MAX_VALUE};
        for (int what : wrong) {
            due.is("put " + what, x.put(what), -2);
        }
    }

    private static void putting(Due due) {
        order(due, Due.train("train 4;dest 2 0 2 1;stop 1 1"), 0, 0, 1, 2, 2);
        order(due, Due.train("train 4;dest 2 0 2 1;stop 1 1;rider 0 2 1 0;rider 3 1 1 0;rider 3 1 1 0"), 0, 2, 2, 0, 1);
        order(due, Due.train("train 4;dest 2 0 2 1;stop 1 1;rider 0 1 1 0;rider 0 2 1 0"), 1, 1, 0, 2, 2);
        order(due, Due.train("train 3;dest 3 1 3;stop 1 1;rider 0 3 1 0;rider 1 1 1 0;rider 2 2 1 0"), 2, 3, 3, 1);
        order(due, Due.train("train 3;dest 3 1 3;stop 1 1;rider 0 3 1 0"), 0, 3, 3, 1);
        order(due, Due.train("train 2;stop 1 1;rider 0 3 1 0;rider 1 0 1 0"), 1, 0, 0);
        order(due, Due.train("train 8;dest 3 2 1 0 3 2 1 0;stop 1 1;rider 0 3 1 0;rider 7 0 1 0;rider 2 2 1 0"),
                0, 3, 3, 2, 2, 1, 1, 0, 0);
    }

    private static void puttingWhoGoes(Due due) {
        FrontFour x = Due.train("train 2;dest 0 1;stop 9 9;rider 0 1 5 0");
        order(due, x, 0, 1, 0);
        x.inside(0, 1);
        order(due, x, 0, 1, 0);
        x.pass(5);
        order(due, x, 0, 0, 1);
    }

    private static void families(Due due) {
        String line = "train 5;dest 0 1 1 1 0;stop 50 5;platform 20;rider 0 1 3 0;rider 4 1 2 0;rider 2 0 1 0";
        FrontFour x = Due.train(line);
        // RIDER 0 needs 3, 6, 9; RIDER 1 needs 6, 4, 2
        due.is("two of them", x.family(3, 0), 1);
        due.is("when", x.family(3, 1), 6);
        due.is("of one", x.family(1, 0), 1);
        due.is("when", x.family(1, 1), 3);
        due.is("of the other", x.family(2, 0), 3);
        due.is("when", x.family(2, 1), 2);
        // 2 is not for the DEST of RIDER 2, but that of RIDER 0 counts
        due.is("the DEST of the least", x.family(5, 0), 1);
        due.is("when", x.family(5, 1), 3);
        due.is("of RIDER 2 alone: to 0 and to 4 in 2", x.family(4, 0), 0);
        due.is("when", x.family(4, 1), 2);
        x = Due.train(line + ";told 1 20");
        due.is("when the last KNOWS", x.family(3, 1), 22);
        due.is("where", x.family(3, 0), 3);
        x.inside(0, 1);
        x.pass(1);
        due.is("who goes", x.family(1, 1), 3);
        int[] wrong = {0, -1, 8, 9, 64, Integer.MIN_VALUE, Integer.MAX_VALUE};
        for (int set : wrong) {
            due.is("set " + set, x.family(set, 0), -1);
        }
        due.is("what -1", x.family(1, -1), -1);
        due.is("what 2", x.family(1, 2), -1);
    }

    private static void familiesThatCannotBe(Due due) {
        FrontFour x = Due.train("train 3;dest 0 0 1;stop 8 2;platform 20;rider 0 1 5 0;rider 0 1 6 0;rider 0 2 1 0");
        due.is("at PARTING", x.family(1, 1), 10);
        due.is("behind PARTING", x.family(2, 0), -2);
        due.is("one of them behind it", x.family(3, 1), -2);
        due.is("no COACH goes there", x.family(4, 0), -2);
        FrontFour y = Due.train("train 2;stop 8 2;rider 0 0 5 0;rider 1 0 9 0");
        y.pass(9);
        due.is("together but behind PARTING", y.family(3, 0), -2);
        due.is("alone where they are", y.family(1, 0), 0);
        due.is("now", y.family(1, 1), 9);
        y.pass(2);
        due.is("now is behind PARTING", y.family(1, 1), -2);
    }

    private static void meetings(Due due) {
        FrontFour x = Due.train("train 4;stop 50 5;rider 0 0 4 0;rider 3 0 6 0");
        // 0: WAY 0 from 0 to 3, WAY 1 from 4 to 7; 1: WAY 2 from 0 to 5, WAY 1 from 6 to 11
        due.is("meet", x.meet(0, 1, 0), 1);
        due.is("when", x.meet(0, 1, 1), 6);
        due.is("the other way round", x.meet(1, 0, 0), 1);
        due.is("when", x.meet(1, 0, 1), 6);
        x = Due.train("train 2;stop 50 5;rider 0 0 4 0;rider 1 0 6 0;told 1 3");
        due.is("in the last second", x.meet(0, 1, 1), 3);
        x = Due.train("train 2;stop 50 5;trolley 0 9;rider 0 0 4 0;rider 1 0 6 0");
        due.is("behind the trolley", x.meet(0, 1, 1), 9);
        x = Due.train("train 3;stop 50 5;rider 0 0 4 0;rider 1 0 9 0");
        x.inside(1, 1);
        x.inside(0, 1);
        // 0 is in 1 at 4, 1 is in 2 at 9: 0 in WAY 1 from 4 to 7, 1 from 9
        due.is("each from the end of their GOING", x.meet(0, 1, 0), -2);
        x = Due.train("train 3;stop 50 5;rider 0 0 4 0;rider 1 0 6 0");
        x.inside(1, 1);
        due.is("to where the other will be", x.meet(0, 1, 0), 1);
        due.is("when", x.meet(0, 1, 1), 6);
    }

    private static void meetingsThatAreNot(Due due) {
        FrontFour x = Due.train("train 2;stop 50 5;rider 0 0 4 0;rider 1 0 6 0;told 1 4;rider 0 0 1 0");
        due.is("one is through", x.meet(0, 1, 0), -2);
        due.is("when", x.meet(0, 1, 1), -2);
        due.is("in one COACH", x.meet(0, 2, 0), -2);
        x.shut(0, true);
        due.is("SHUT", x.meet(2, 1, 0), -2);
        int[] wrong = {-1, 3, 6, Integer.MIN_VALUE, Integer.MAX_VALUE};
        for (int r : wrong) {
            due.is("meet " + r, x.meet(r, 0, 0), -1);
            due.is("meet with " + r, x.meet(0, r, 0), -1);
        }
        due.is("meet oneself", x.meet(1, 1, 0), -1);
        due.is("what -1", x.meet(0, 1, -1), -1);
        due.is("what 2", x.meet(0, 1, 2), -1);
        // each goes as far as they can: 0 no further than COACH 1, where 1 comes by WAY 1
        FrontFour y = Due.train("train 3;stop 50 5;shut 1;rider 0 0 4 0;rider 2 0 4 0");
        due.is("as far as they can", y.meet(0, 1, 0), -2);
        FrontFour z = Due.train("train 3;dest 0 0 1;stop 3 3;rider 0 0 4 0;rider 2 0 4 0");
        due.is("one is stopped by PARTING", z.meet(0, 1, 0), -2);
        FrontFour w = Due.train("train 3;dest 0 0 1;stop 3 3;rider 0 0 4 0;rider 2 0 4 0;told 0 5");
        due.is("the other meets them behind it", w.meet(0, 1, 0), 0);
        due.is("when", w.meet(0, 1, 1), 5);
    }
}
