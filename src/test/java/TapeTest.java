/** Promises 1 to 3: a new object, feed, end. */
public final class TapeTest {
    public static void main(String[] args) {
        Due due = new Due();
        newObject(due);
        feeding(due);
        cutting(due);
        bytesInOrder(due);
        fullTape(due);
        due.close();
    }

    private static void newObject(Due due) {
        FrontFour x = new FrontFour();
        due.is("NONE", FrontFour.NONE, -1);
        int[] counts = {0, 0, 0, 0, 0, -1, -1, 0, 0, 0, 0, 0, 0, -1};
        for (int what = 0; what < counts.length; what++) {
            due.is("count " + what + " of a new object", x.count(what), counts[what]);
        }
        due.is("coach", x.coach(0, 0), -1);
        due.is("way", x.way(0, 0), -2);
        due.is("stop", x.stop(0, 0), -1);
        due.is("rider", x.rider(0, 0), -1);
        due.is("inside", x.inside(0, 1), -1);
        due.is("outside", x.outside(0, 1), -1);
        due.is("pass", x.pass(1), -1);
        due.is("shut", x.shut(0, true), false);
        due.is("shut open", x.shut(0, false), false);
        due.is("undo", x.undo(), -1);
        due.is("run", x.run(0, 1), -1);
        due.is("soonest", x.soonest(0), -1);
        due.is("row", x.row(0, 0, 0), -1);
        due.is("latest", x.latest(0), -1);
        due.is("lost", x.lost(), -1);
        due.is("voice", x.voice(0), -1);
        due.is("voices", x.voices(), -1);
        due.is("put", x.put(-1), -2);
        due.is("put 0", x.put(0), -2);
        due.is("family", x.family(1, 0), -1);
        due.is("meet", x.meet(0, 1, 0), -1);
        due.is("seen", x.seen(0, 0, 0), -2);
        due.is("seen none", x.seen(-1, 0, 0), 0);
        due.is("gotIn", x.gotIn(0), -1);
        due.is("sit", x.sit(0), -1);
        due.is("journeys", x.journeys(1, 0), -1);
        for (int k = -1; k < 5; k++) {
            due.is("back " + k, x.back(k), -1);
        }
        due.is("a RULE without a LINE", Due.rule(x, "stay"), 0);
        due.is("run without a LINE", x.run(0, 1), -1);
    }

    private static void feeding(Due due) {
        FrontFour x = new FrontFour();
        for (int n = 1; n <= 20; n++) {
            due.is("feed " + n, x.feed(n, -n, 0, Integer.MIN_VALUE, Integer.MAX_VALUE), 20 * n);
        }
        due.is("feed 21", x.feed(1, 2, 3, 4, 5), -1);
        due.is("bytes of the TAPE", x.count(12), 400);
        due.is("end 381", x.end(381), 381);
        due.is("feed that would have 401", x.feed(1, 2, 3, 4, 5), -1);
        due.is("bytes of the TAPE still", x.count(12), 381);
        due.is("end 380", x.end(380), 380);
        due.is("feed that has 400", x.feed(1, 2, 3, 4, 5), 400);
    }

    private static void cutting(Due due) {
        FrontFour x = new FrontFour();
        due.is("end of an empty TAPE", x.end(0), 0);
        due.is("end 1 of an empty TAPE", x.end(1), -1);
        x.feed(1, 2, 3, 4, 5);
        due.is("end -1", x.end(-1), -1);
        due.is("end 21", x.end(21), -1);
        due.is("end least", x.end(Integer.MIN_VALUE), -1);
        due.is("end most", x.end(Integer.MAX_VALUE), -1);
        due.is("bytes", x.count(12), 20);
        due.is("end 20", x.end(20), 20);
        due.is("end 7", x.end(7), 7);
        due.is("end 8", x.end(8), -1);
        due.is("bytes after", x.count(12), 7);
        due.is("feed goes on behind", x.feed(1, 2, 3, 4, 5), 27);
    }

    private static void bytesInOrder(Due due) {
        FrontFour x = new FrontFour();
        // "trai" "n 2;" "stop" " 1 1"
        due.is("feed", x.feed(0x74726169, 0x6e20323b, 0x73746f70, 0x20312031, 0x3b3b3b3b), 20);
        x.end(16);
        due.is("line", x.line(), 0);
        due.is("coaches", x.count(0), 2);
        // a byte above 127 is no blank and no sign
        x.feed(0x74726169, 0x6e2032a0, 0x3b73746f, 0x70203120, 0x31000000);
        x.end(17);
        due.is("line with byte 160", x.line(), Due.fault(7, 0));
    }

    private static void fullTape(Due due) {
        FrontFour x = new FrontFour();
        due.is("400 signs are no LINE", Due.line(x, ";".repeat(400)), Due.fault(0, 0));
        due.is("nor a RULE", Due.rule(x, "stay" + ";".repeat(396)), Due.fault(5, 0));
        due.is("400 blanks", Due.line(x, " ".repeat(400)), Due.fault(400, 0));
        due.is("a sign as the last byte", Due.rule(x, "stay if 1" + " ".repeat(390) + "<"), Due.fault(400, 0));
        due.is("a digit as the last byte", Due.rule(x, "stay if 1<" + " ".repeat(389) + "1"), 0);
        due.is("a letter as the last byte", Due.rule(x, " ".repeat(396) + "stay"), 1);
        due.is("a LINE of 400 bytes", Due.line(x, "train 2" + " ".repeat(384) + ";stop 1 1"), 0);
        // each byte after the first CLAUSE a token of its own: 60 VALUES and FACTS, 10 deep
        StringBuilder text = new StringBuilder("stay if ");
        for (int n = 0; n < 20; n++) {
            text.append(n == 0 ? "" : "or").append("[[[[1=1]]]]");
        }
        due.is("many tokens", Due.rule(x, text.toString()), 2);
    }
}
