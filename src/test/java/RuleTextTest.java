/** Promise 5: rule and its FAULTS, and what SUMS and TESTS are worth. */
public final class RuleTextTest {
    public static void main(String[] args) {
        Due due = new Due();
        numbers(due);
        faults(due);
        depth(due);
        sixtyValues(due);
        twelveClauses(due);
        tests(due);
        words(due);
        due.close();
    }

    private static void numbers(Due due) {
        FrontFour x = new FrontFour();
        String[] texts = {"stay", "inside 1 if 1=1;outside 2", " stay if not 1<2 ", "inside dest+1*2-3/4%5",
            "stay if [1=1]", "stay if1<=2or3>=4and5>6"};
        for (int n = 0; n < 6; n++) {
            due.is("rule " + texts[n], Due.rule(x, texts[n]), n);
            due.is("RULES", x.count(3), n + 1);
            due.is("the TAPE is empty", x.count(12), 0);
        }
        Due.tell(x, "stay");
        due.is("a seventh RULE", x.rule(), -1);
        due.is("the TAPE stays", x.count(12), 4);
        Due.tell(x, "foo");
        due.is("a seventh RULE with a FAULT", x.rule(), -1);
        due.is("RULES", x.count(3), 6);
    }

    private static void faults(Due due) {
        String[] texts = {"", "  ", "foo", "stop 1 1", "stay 1", "stay;", "inside", "inside if 1=1", "inside 1 2",
            "inside 123456", "inside 99999 *", "inside 1+", "inside +1", "inside foo", "inside train",
            "inside 1 if", "inside 1 if 1", "inside 1 if 1+1", "inside 1 if 1=", "inside 1 if 1==1", "inside 1 if 1<>1",
            "inside 1 if 1< =1", "inside 1 if [1=1", "inside 1 if 1=1]", "inside 1 if [1]", "inside [1]",
            "inside 1 if not", "inside 1 if 1=1 and", "inside 1 if 1=1 or or 1=1", "inside 1 if 1=1 1=1",
            "inside 1 if 1=1 if 1=1", "stay if 1=123456", "stay if seat=1", "stay if Rider=1", "stay if rider =<1",
            "stay stay", "stay if 1=1,stay", "inside told", "inside 1 123456", "stay\t"};
        int[][] want = {{0, 0}, {2, 0}, {0, 0}, {0, 0}, {5, 0}, {5, 0}, {6, 0}, {7, 0}, {9, 0},
            {7, 1}, {14, 0}, {9, 0}, {7, 0}, {7, 0}, {7, 0},
            {11, 0}, {13, 0}, {15, 0}, {14, 0}, {14, 0}, {14, 0},
            {15, 0}, {16, 0}, {15, 0}, {14, 0}, {7, 0},
            {15, 0}, {19, 0}, {19, 0}, {16, 0},
            {16, 0}, {10, 1}, {8, 0}, {8, 0}, {15, 0},
            {5, 0}, {11, 0}, {7, 0}, {9, 0}, {4, 0}};
        FrontFour x = new FrontFour();
        for (int i = 0; i < texts.length; i++) {
            due.is("rule " + texts[i], Due.rule(x, texts[i]), Due.fault(want[i][0], want[i][1]));
            due.is("no RULE by it", x.count(3), 0);
            due.is("the TAPE is empty by it", x.count(12), 0);
        }
    }

    private static void depth(Due due) {
        FrontFour x = new FrontFour();
        due.is("10 brackets", Due.rule(x, "stay if " + "[".repeat(10) + "1=1" + "]".repeat(10)), 0);
        due.is("11 brackets", Due.rule(x, "stay if " + "[".repeat(11) + "1=1" + "]".repeat(11)), Due.fault(18, 2));
        due.is("10 not", Due.rule(x, "stay if " + "not ".repeat(10) + "1=1"), 1);
        due.is("11 not", Due.rule(x, "stay if " + "not ".repeat(11) + "1=1"), Due.fault(48, 2));
        due.is("5 of each", Due.rule(x, "stay if " + "not[".repeat(5) + "1=1" + "]".repeat(5)), 2);
        due.is("6 not and 5 [", Due.rule(x, "stay if " + "not[".repeat(5) + "not 1=1" + "]".repeat(5)),
                Due.fault(28, 2));
        due.is("one behind another is not deeper",
                Due.rule(x, "stay if " + "[1=1]and ".repeat(11) + "not not 1=1"), 3);
        due.is("not in brackets", Due.rule(x, "stay if not not[1=1]or" + "[".repeat(10) + "1=1" + "]".repeat(10)), 4);
    }

    private static void sixtyValues(Due due) {
        FrontFour x = new FrontFour();
        String sixty = "inside 1" + "+1".repeat(59);
        due.is("60 VALUES", Due.rule(x, sixty), 0);
        due.is("61 VALUES", Due.rule(x, sixty + "+1"), Due.fault(sixty.length() + 1, 3));
        due.is("a bad 61st NUMBER", Due.rule(x, sixty + "+123456"), Due.fault(sixty.length() + 1, 1));
        due.is("a bad 61st WORD", Due.rule(x, sixty + "+foo"), Due.fault(sixty.length() + 1, 0));
        String facts = "stay if 1=1" + " or 1=1".repeat(19);
        due.is("20 FACTS with 40 VALUES", Due.rule(x, facts), 1);
        due.is("a 61st", Due.rule(x, facts + " or 1=1"), Due.fault(facts.length() + 4, 3));
        String ahead = "inside 1" + "+1".repeat(58) + " if 1";
        due.is("a SIGN too many", Due.rule(x, ahead + " = 1"), Due.fault(ahead.length() + 1, 3));
        due.is("brackets and words count not", Due.rule(x, "stay if [1=1]" + " and [1=1]".repeat(19)), 2);
    }

    private static void twelveClauses(Due due) {
        FrontFour x = new FrontFour();
        String twelve = "stay" + ";stay".repeat(11);
        due.is("12 CLAUSES", Due.rule(x, twelve), 0);
        due.is("13 CLAUSES", Due.rule(x, twelve + ";stay"), Due.fault(twelve.length() + 1, 4));
        due.is("a bad 13th", Due.rule(x, twelve + ";stax"), Due.fault(twelve.length() + 1, 0));
        due.is("an empty 13th", Due.rule(x, twelve + "; "), Due.fault(twelve.length() + 2, 0));
    }

    /** Whether a TEST holds: who goes then to COACH 1 has moved. */
    private static boolean holds(String test) {
        FrontFour x = Due.train("train 2;stop 99 60;rider 0 0 1 0");
        int number = Due.rule(x, "inside 1 if " + test);
        if (number != 0) {
            throw new IllegalStateException(test);
        }
        x.run(0, 1);
        return x.rider(0, 7) == 1;
    }

    private static void tests(Due due) {
        String[] hold = {"1<2", "1<=1", "1=1", "1>=1", "2>1", "not 1=2", "1=2 or 1=1", "1=1 or 1=2 and 1=2",
            "1=1 and 1=1", "[1=1 or 1=2] and 1=1", "not [1=1 and 1=2]", "not not 1=1", "7/2=3", "7%4=3",
            "0-7/2=0-3", "5/0=0", "5%0=0", "1+2*3=7", "2*3+1=7", "10-2-3=5", "100/5/2=10", "7-4%3=6",
            "99999=99999", "0<1 and 1<2 and 2<3", "1=2 or 2=3 or 3=3", "not 1=2 and 1=1", "2*3%4=2",
            "0-7+0=0-7"};
        for (String test : hold) {
            due.is(test, holds(test), true);
        }
        String[] fail = {"2<1", "1<1", "2<=1", "1=2", "1>=2", "1>1", "not 1=1", "1=2 or 1=3", "1=1 and 1=2",
            "1=2 and 1=1 or 1=2", "not [1=1 or 1=2]", "not 1=1 or 1=2", "[1=1 or 1=1] and 1=2", "0-7/2>0-3"};
        for (String test : fail) {
            due.is(test, holds(test), false);
        }
        // Java's own long goes round as the document asks
        long product = 99999L * 99999L * 99999L * 99999L;
        due.is("goes round", holds("99999*99999*99999*99999<0"), product < 0);
        long large = 99999L * 99999L * 99999L * 9000L;
        due.is("goes round in sums",
                holds("99999*99999*99999*9000+99999*99999*99999*9000<0"), large + large < 0);
    }

    private static void words(Due due) {
        // RIDER 1 in COACH 1, DEST 1, PACE 3, LOADS 2; COACHES 0 and 3 go to 1
        String line = "train 5;dest 1 0 0 1 2;stop 4 6;stop 5 5;stop 5 5;parting 1;seats 1 7;"
                + "rider 1 0 1 0;rider 1 1 3 2;rider 2 3 1 0";
        Object[][] due0 = {{"rider", 1}, {"dest", 1}, {"coach", 1}, {"second", 0}, {"left", 20}, {"right", 0},
            {"near", 0}, {"halt", 0}, {"loads", 2}, {"pace", 3}, {"full", 2}, {"seats", 7}, {"moved", 0}};
        for (Object[] pair : due0) {
            due.is("at second 0 " + pair[0], value(line, (String) pair[0], 1, 0), (Integer) pair[1]);
        }
        int[][] halts = {{3, 0}, {4, 6}, {9, 1}, {10, 0}, {11, 0}, {15, 5}, {20, 0}, {25, 5}, {27, 3}, {31, 0}};
        for (int[] pair : halts) {
            due.is("halt at " + pair[0], value(line, "halt", 1, pair[0]), pair[1]);
        }
        int[][] lefts = {{1, 19}, {19, 1}, {20, 0}, {21, 0}, {90, 0}};
        for (int[] pair : lefts) {
            due.is("left at " + pair[0], value(line, "left", 1, pair[0]), pair[1]);
            due.is("second " + pair[0], value(line, "second", 1, pair[0]), pair[0]);
        }
        due.is("right", value(line, "right", 0, 0), 1);
        due.is("near is where one is", value(line, "near", 0, 0), 1);
        due.is("near of none", value(line, "near", 2, 0), 99);
        due.is("near of two the least", value("train 3;dest 1 0 1;stop 1 1;rider 1 1 1 0", "near", 0, 0), 0);
        due.is("near behind", value("train 4;dest 1 0 0 1;stop 1 1;rider 2 1 1 0", "near", 0, 0), 3);
        due.is("full of one", value(line, "full", 2, 0), 1);
    }

    /** A WORD's worth for a RIDER at a second, found by asking for each number. */
    private static int value(String line, String word, int rider, int second) {
        for (int n = 0; n < 100; n++) {
            FrontFour x = Due.train(line);
            Due.rule(x, "inside coach-1 if rider=" + rider + " and " + word + "=" + n
                    + ";inside coach+1 if rider=" + rider + " and " + word + "=" + n);
            for (int s = 0; s < second; s++) {
                x.pass(1);
            }
            x.run(0, 1);
            if (x.rider(rider, 7) == 1) {
                return n;
            }
        }
        return -1;
    }
}
