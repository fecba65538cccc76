/** Promises 1 to 3, sentence by sentence. */
final class EdgesOfTape {
    private static Sentences s;

    private EdgesOfTape() {
    }

    static void test(Sentences sentences) {
        s = sentences;
        constants();
        newObject();
        feedGivesTwenty();
        feedKeepsTheOrder();
        feedTill400();
        endCuts();
        endRefuses();
    }

    private static void constants() {
        s.part("Terms III");
        s.says("The constants: `NONE = -1`: None.");
        s.is("NONE", FrontFour.NONE, -1);
    }

    private static void newObject() {
        s.part("Promise 1");
        s.says("No LINE, no RULES.");
        FrontFour x = new FrontFour();
        s.is("COACHES", x.count(0), 0);
        s.is("STOPS", x.count(1), 0);
        s.is("RIDERS", x.count(2), 0);
        s.is("PARTING", x.count(5), -1);
        s.is("RULES", x.count(3), 0);
        s.is("bytes of the TAPE", x.count(12), 0);
        s.is("lost without a LINE", x.lost(), -1);
        s.is("run of no RULE", x.run(0, 1), -1);
        s.is("the first RULE is number 0", Due.rule(x, "stay"), 0);
        s.is("a RULE is no LINE", x.lost(), -1);
        s.is("the first LINE", Due.line(x, "train 2;stop 1 1"), 0);
        s.is("lost with a LINE", x.lost(), 0);
        s.is("a LINE and a RULE", x.run(0, 1), 1);
        s.is("another new object has neither", new FrontFour().count(3) + new FrontFour().count(0), 0);
    }

    private static void feedGivesTwenty() {
        s.part("Promise 2");
        s.says("Twenty bytes come behind the TAPE,");
        FrontFour x = new FrontFour();
        s.is("feed", x.feed(0, 0, 0, 0, 0), 20);
        s.is("feed again", x.feed(-1, -1, -1, -1, -1), 40);
        s.is("end", x.end(33), 33);
        s.is("feed behind 33", x.feed(1, 1, 1, 1, 1), 53);
        s.is("how many", x.count(12), 53);
        // behind what was there, not in its place: "train 2;" and then a STOP
        x = new FrontFour();
        x.feed(0x74726169, 0x6e20323b, 0, 0, 0);
        x.end(8);
        x.feed(0x73746f70, 0x20312031, 0, 0, 0);
        x.end(16);
        s.is("line of two feeds", x.line(), 0);
    }

    private static void feedKeepsTheOrder() {
        s.says("of each number the highest first: how many it has;");
        FrontFour x = new FrontFour();
        s.is("feed", x.feed(0x74726169, 0x6e20333b, 0x73746f70, 0x20392036, 0x3b202020), 20);
        x.end(16);
        s.is("line", x.line(), 0);
        s.is("train 3", x.count(0), 3);
        s.is("stop 9 6: its begin", x.stop(0, 0), 9);
        s.is("its end", x.stop(0, 1), 15);
        // the lowest first would be "rait" and no CLAUSE
        x.feed(0x69617274, 0x3b33206e, 0x706f7473, 0x36203920, 0);
        x.end(16);
        s.is("the lowest first", x.line(), Due.fault(0, 0));
        // the sign of a number is a bit of its first byte: blanks with it are no blanks
        x.feed(0xa0202020, 0, 0, 0, 0);
        x.end(1);
        s.is("byte 160", x.line(), Due.fault(0, 0));
        x.feed(0x20202020, 0, 0, 0, 0);
        x.end(1);
        s.is("byte 32", x.line(), Due.fault(1, 0));
        x.feed(0x2020207f, 0x80000000, 0, 0, 0);
        x.end(5);
        s.is("byte 127", x.line(), Due.fault(3, 0));
    }

    private static void feedTill400() {
        s.says("NONE, and none comes, if it would have more than 400.");
        FrontFour x = new FrontFour();
        for (int n = 20; n <= 400; n += 20) {
            s.is("feed till " + n, x.feed(n, n, n, n, n), n);
        }
        s.is("feed from 400", x.feed(0, 0, 0, 0, 0), -1);
        s.is("400 still", x.count(12), 400);
        s.is("end 399", x.end(399), 399);
        s.is("feed from 399", x.feed(0, 0, 0, 0, 0), -1);
        s.is("399 still", x.count(12), 399);
        s.is("end 381", x.end(381), 381);
        s.is("feed that would have 401", x.feed(0, 0, 0, 0, 0), -1);
        s.is("381 still", x.count(12), 381);
        s.is("end 380", x.end(380), 380);
        s.is("feed that has 400", x.feed(0, 0, 0, 0, 0), 400);
        x.end(379);
        s.is("feed that has 399", x.feed(0, 0, 0, 0, 0), 399);
        // none comes: what is refused leaves no byte behind
        x = new FrontFour();
        Due.tell(x, "train 2;stop 1 1" + " ".repeat(365));
        s.is("refused at 381", x.feed(-1, -1, -1, -1, -1), -1);
        s.is("the LINE without it", x.line(), 0);
    }

    private static void endCuts() {
        s.part("Promise 3");
        s.says("The TAPE has its first n bytes alone: n;");
        FrontFour x = new FrontFour();
        s.is("end 0 of none", x.end(0), 0);
        Due.tell(x, "train 2;stop 1 12;shut 0");
        s.is("end 17", x.end(17), 17);
        s.is("17 bytes", x.count(12), 17);
        s.is("end 16", x.end(16), 16);
        s.is("line of the first 16", x.line(), 0);
        s.is("HALT of 1, not of 12", x.stop(0, 1), 2);
        s.is("not SHUT", x.way(0, 0), 0);
        Due.tell(x, "abc");
        s.is("end 1", x.end(1), 1);
        s.is("end 0", x.end(0), 0);
        s.is("none", x.count(12), 0);
        s.is("an empty TAPE is read", x.line(), Due.fault(0, 0));
    }

    private static void endRefuses() {
        s.says("NONE, and nothing happens, if it has not so many, or n is below 0.");
        FrontFour x = new FrontFour();
        s.is("end 1 of none", x.end(1), -1);
        s.is("end -1 of none", x.end(-1), -1);
        x.feed(0, 0, 0, 0, 0);
        s.is("end 21 of 20", x.end(21), -1);
        s.is("20 still", x.count(12), 20);
        s.is("end 20 of 20", x.end(20), 20);
        s.is("end 19 of 20", x.end(19), 19);
        s.is("what is cut off is gone", x.end(20), -1);
        s.is("end -1", x.end(-1), -1);
        s.is("19 still", x.count(12), 19);
        s.is("the least number", x.end(Integer.MIN_VALUE), -1);
        s.is("the largest number", x.end(Integer.MAX_VALUE), -1);
        s.is("19 still", x.count(12), 19);
        for (int n = 1; n < 20; n++) {
            x.feed(0, 0, 0, 0, 0);
        }
        s.is("end 400 of 399", x.end(400), -1);
        s.is("end 399 of 399", x.end(399), 399);
    }
}
