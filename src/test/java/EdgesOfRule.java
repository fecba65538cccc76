/** The STOPS, RULES and FAULTS of Terms I and promise 5, sentence by sentence. */
final class EdgesOfRule {
    private static Sentences s;

    private EdgesOfRule() {
    }

    static void test(Sentences sentences) {
        s = sentences;
        s.part("Terms I");
        ridesAndHalts();
        parting();
        sixRules();
        clauses();
        testsAndParts();
        facts();
        signs();
        sums();
        values();
        plainWords();
        left();
        right();
        near();
        halt();
        otherWords();
        divisions();
        blanks();
        depth();
        sixty();
        firstFault();
        faultsOfKind0();
        faultsOfKind1();
        faultsOfKind2();
        faultsOfKind3();
        faultsOfKind4();
        ofOnePlaceTheLeast();
        s.part("Promise 5");
        aRule();
        refusedRules();
    }

    private static int rule(String text) {
        return Due.rule(new FrontFour(), text);
    }

    private static int line(String text) {
        return Due.line(new FrontFour(), text);
    }

    /** Whether a TEST holds for a RIDER, who can go to the COACH ahead or behind then. */
    private static boolean holds(FrontFour x, int rider, String test) {
        int moved = x.rider(rider, 7);
        String only = " if rider=" + rider + " and [" + test + "]";
        int number = Due.rule(x, "inside coach+1" + only + ";inside coach-1" + only);
        if (number < 0 || x.run(number, 1) < 0) {
            throw new IllegalStateException("no RULE: " + test);
        }
        return x.rider(rider, 7) > moved;
    }

    private static boolean holds(String test) {
        return holds(Due.train("train 2;stop 99 60;rider 0 0 1 0"), 0, test);
    }

    /** A WORD is worth a number, and not one more or less. */
    private static void worth(String line, int second, int rider, String word, int want) {
        for (int n = Math.max(0, want - 1); n <= want + 1; n++) {
            FrontFour x = Due.passTo(Due.train(line), second);
            s.is(word + " = " + n + " at " + second, holds(x, rider, word + "=" + n), n == want);
        }
    }

    private static void ridesAndHalts() {
        s.says("The train RIDES to STOP 0, HALTS there, RIDES to STOP 1, and so on.");
        FrontFour x = Due.train("train 2;stop 2 3;stop 1 1;stop 4 1");
        int[] begins = {2, 6, 11};
        int[] ends = {5, 7, 12};
        for (int k = 0; k < 3; k++) {
            s.is("begin", x.stop(k, 0), begins[k]);
            s.is("end", x.stop(k, 1), ends[k]);
        }
        s.says("A HALT is all seconds from its begin (the end of the RIDE) to its end.");
        int[] halts = {-1, -1, 0, 0, 0, 0, 1, 1, -1, -1, -1, 2, 2, -1};
        for (int second = 0; second < halts.length; second++) {
            s.is("HALTS at second " + second, Due.passTo(x, second).count(6), halts[second]);
        }
    }

    private static void parting() {
        s.says("PARTING: the second at which the HALT of the STOP of parting ends.");
        s.is("of STOP 0", Due.train("train 2;stop 2 3;stop 1 1;stop 4 1;parting 0").count(5), 5);
        s.is("of STOP 1", Due.train("train 2;stop 2 3;stop 1 1;stop 4 1;parting 1").count(5), 7);
        s.is("of STOP 2", Due.train("train 2;stop 2 3;stop 1 1;stop 4 1;parting 2").count(5), 12);
        s.is("the last that can be", Due.train("train 2" + ";stop 99 60".repeat(6)).count(5), 954);
        s.is("the first that can be", Due.train("train 2;stop 1 1").count(5), 2);
        s.says("(Later STOPS are only for those who read the LINE.)");
        FrontFour x = Due.train("train 2;dest 0 1;stop 2 3;stop 1 60;parting 0;platform 1;rider 0 1 1 0;rider 0 1 1 0");
        s.is("they are STOPS", x.count(1), 2);
        s.is("begin", x.stop(1, 0), 6);
        s.is("end", x.stop(1, 1), 66);
        s.is("at the one of parting they go", Due.passTo(x, 4).outside(0, 1), 5);
        s.is("at a later one they do not", Due.passTo(x, 6).outside(1, 1), -1);
        s.is("nor is it looked at", x.soonest(1), -2);
    }

    private static void sixRules() {
        s.says("RULES 0 to 5: texts likewise, 12 CLAUSES at most:");
        FrontFour x = Due.train("train 2;stop 9 9");
        for (int n = 0; n <= 5; n++) {
            s.is("RULE " + n + " is not told yet", x.run(n, 1), -1);
            s.is("RULE " + n, Due.rule(x, "stay"), n);
            s.is("it can be run", x.run(n, 1), n + 1);
        }
        s.is("RULE 6", Due.rule(x, "stay"), -1);
        s.is("there is none", x.run(6, 1), -1);
        String eleven = "stay" + ";stay".repeat(10);
        s.is("11 CLAUSES", rule(eleven), 0);
        s.is("12", rule(eleven + ";stay"), 0);
        s.is("13", rule(eleven + ";stay;stay"), Due.fault(60, 4));
        s.is("14", rule(eleven + ";stay;stay;stay"), Due.fault(60, 4));
        s.is("none", rule(""), Due.fault(0, 0));
        s.is("400 bytes", rule("stay" + " ".repeat(391) + ";stay"), 0);
        s.is("400 signs", rule("+".repeat(400)), Due.fault(0, 0));
        s.is("400 signs of a LINE", line(";".repeat(400)), Due.fault(0, 0));
        // a RULE has nothing of the one told ahead of it
        x = Due.train("train 7;stop 9 9;rider 3 0 1 0");
        s.is("12 CLAUSES", Due.rule(x, eleven + ";stay"), 0);
        s.is("12 again", Due.rule(x, eleven + ";stay"), 1);
        s.is("a FAULT in the twelfth", Due.rule(x, eleven + ";stay 1"), Due.fault(60, 0));
        for (int n = 2; n < 6; n++) {
            String sum = n % 2 == 0 ? "inside 0" + "+0".repeat(58) + "+6" : "inside 6" + "-0".repeat(58) + "-6";
            s.is("60 VALUES", Due.rule(x, sum), n);
        }
        for (int n = 2; n < 6; n++) {
            x.run(n, 1);
            s.is("RULE " + n + " goes its own way", x.rider(0, 0), n % 2 == 0 ? 4 : 3);
        }
    }

    private static void clauses() {
        s.says("inside SUM [ if TEST ] | outside SUM [ if TEST ] | stay [ if TEST ].");
        String[] good = {"inside 1", "inside 1 if 1=1", "outside 1", "outside 1 if 1=1", "stay", "stay if 1=1"};
        for (String text : good) {
            s.is(text, rule(text), 0);
        }
        s.is("inside without a SUM", rule("inside"), Due.fault(6, 0));
        s.is("outside without a SUM", rule("outside if 1=1"), Due.fault(8, 0));
        s.is("stay with a SUM", rule("stay 1"), Due.fault(5, 0));
        s.is("if without a TEST", rule("stay if"), Due.fault(7, 0));
        s.is("a TEST without if", rule("stay 1=1"), Due.fault(5, 0));
        s.is("two TESTS", rule("stay if 1=1 if 1=1"), Due.fault(12, 0));
        s.is("these brackets are no signs", rule("stay [ if 1=1 ]"), Due.fault(5, 0));
    }

    private static void testsAndParts() {
        s.says("TEST: PART { or PART }. PART: FACT { and FACT }.");
        s.is("and binds first, behind or", holds("1=1 or 1=1 and 1=2"), true);
        s.is("and binds first, ahead of or", holds("1=2 and 1=1 or 1=1"), true);
        s.is("by brackets it does not", holds("[1=1 or 1=1] and 1=2"), false);
        for (int bits = 0; bits < 8; bits++) {
            String a = (bits & 1) != 0 ? "1=1" : "1=2";
            String b = (bits & 2) != 0 ? "2=2" : "2=3";
            String c = (bits & 4) != 0 ? "3=3" : "3=4";
            s.is("or of " + bits, holds(a + " or " + b + " or " + c), bits != 0);
            s.is("and of " + bits, holds(a + " and " + b + " and " + c), bits == 7);
            s.is("and, or of " + bits, holds(a + " and " + b + " or " + c), bits == 3 || bits >= 4);
            s.is("or, and of " + bits, holds(a + " or " + b + " and " + c), (bits & 1) != 0 || bits == 6);
        }
        s.is("no PART behind or", rule("stay if 1=1 or"), Due.fault(14, 0));
        s.is("no FACT behind and", rule("stay if 1=1 and"), Due.fault(15, 0));
        s.is("no FACT ahead of and", rule("stay if and 1=1"), Due.fault(8, 0));
    }

    private static void facts() {
        s.says("FACT: not FACT | [ TEST ] (these brackets are signs) | SUM SIGN SUM,");
        s.is("not of one that holds", holds("not 1=1"), false);
        s.is("not of one that does not", holds("not 1=2"), true);
        s.is("not not", holds("not not 1=1"), true);
        s.is("not is of the next FACT alone", holds("not 1=2 and 1=2"), false);
        s.is("not of brackets", holds("not [1=2 and 1=2]"), true);
        s.is("not of brackets with or", holds("not [1=2 or 1=1]"), false);
        s.is("brackets in brackets", holds("[[1=1]]"), true);
        s.is("no ]", rule("stay if [1=1"), Due.fault(12, 0));
        s.is("no [", rule("stay if 1=1]"), Due.fault(11, 0));
        s.is("nothing in them", rule("stay if []"), Due.fault(9, 0));
        s.is("a SUM in them", rule("stay if [1]=1"), Due.fault(10, 0));
        s.is("a SUM alone", rule("stay if 1"), Due.fault(9, 0));
        s.is("no SUM behind", rule("stay if 1="), Due.fault(10, 0));
        s.is("no SUM ahead", rule("stay if =1"), Due.fault(8, 0));
        s.is("two SIGNS", rule("stay if 1=1=1"), Due.fault(11, 0));
        s.is("no SIGN between NUMBERS", rule("stay if 1 1"), Due.fault(10, 0));
        s.is("no SIGN between WORDS", rule("stay if rider coach"), Due.fault(14, 0));
        s.is("not of a SUM", rule("stay if 1=not 1"), Due.fault(10, 0));
    }

    private static void signs() {
        s.says("SIGN one of < <= = >= >.");
        String[] signs = {"<", "<=", "=", ">=", ">"};
        boolean[][] due = {{true, false, false}, {true, true, false}, {false, true, false}, {false, true, true},
            {false, false, true}};
        for (int i = 0; i < signs.length; i++) {
            for (int n = 4; n <= 6; n++) {
                s.is(n + signs[i] + "5", holds(n + signs[i] + "5"), due[i][n - 4]);
            }
        }
        String[] wrong = {"==", "=<", "=>", "<>", "!=", "< =", "<<"};
        int[] places = {10, 10, 10, 10, 9, 11, 10};
        s.is("< at the end", rule("stay if 1<"), Due.fault(10, 0));
        s.is("<= at the end", rule("stay if 1<="), Due.fault(11, 0));
        s.is("< as the last of 400 bytes", rule("stay if 1" + " ".repeat(390) + "<"), Due.fault(400, 0));
        s.is("<= as the last of 400 bytes", rule("stay if 1" + " ".repeat(389) + "<="), Due.fault(400, 0));
        // what was cut off the TAPE is no part of a SIGN
        FrontFour x = new FrontFour();
        Due.tell(x, "stay if 1<=1");
        x.end(10);
        x.feed(0x31202020, 0, 0, 0, 0);
        x.end(11);
        s.is("1<1 and not 1<=1", x.rule(), 0);
        for (int i = 0; i < wrong.length; i++) {
            s.is("1" + wrong[i] + "1", rule("stay if 1" + wrong[i] + "1"), Due.fault(places[i], 0));
        }
    }

    private static void sums() {
        s.says("SUM: TERM { (+ or -) TERM }. TERM: VALUE { (* or / or %) VALUE }.");
        String[] hold = {"1+1=2", "3-1=2", "1-3<0", "10-4-3=3", "10-4+3=9", "2+3*4=14", "2*3+4=10", "9-2*3=3", "9-8/2=5",
            "9-8%3=7", "2*3*4=24", "100/10/5=2", "100%30%4=2", "7*3/2=10", "7/2*3=9", "17%5*3=6", "3*17%5=1", "1+2-3*4/5%6=1"};
        for (String test : hold) {
            s.is(test, holds(test), true);
        }
        s.is("no TERM behind +", rule("inside 1+"), Due.fault(9, 0));
        s.is("no TERM ahead of -", rule("inside -1"), Due.fault(7, 0));
        s.is("no VALUE behind *", rule("inside 1*"), Due.fault(9, 0));
        s.is("two operators", rule("inside 1+*1"), Due.fault(9, 0));
        s.is("no brackets in a SUM", rule("inside 2*[1+1]"), Due.fault(9, 0));
    }

    private static void values() {
        s.says("VALUE: NUMBER (1 to 5 digits, as far as digits go on) | WORD.");
        s.is("1 digit", rule("inside 9"), 0);
        s.is("4 digits", rule("inside 9999"), 0);
        s.is("5 digits", rule("inside 99999"), 0);
        s.is("6 digits", rule("inside 100000"), Due.fault(7, 1));
        s.is("6 digits that begin with 0", rule("inside 000001"), Due.fault(7, 1));
        s.is("7 digits", rule("inside 1000000"), Due.fault(7, 1));
        s.is("5 digits, a blank, 5 digits", rule("inside 12345 12345"), Due.fault(13, 0));
        s.is("5 digits that begin with 0", holds("00012=12"), true);
        s.is("99999", holds("99999=99998+1"), true);
        s.is("a WORD right behind digits", rule("stay if 1=1or 1=1"), 0);
        s.is("5 digits of a LINE", line("train 00002;stop 1 1"), 0);
        s.is("6 digits of a LINE", line("train 000002;stop 1 1"), Due.fault(6, 1));
    }

    private static void plainWords() {
        s.says("WORDS (small letters, as far as these go on) of a RIDER: rider, dest, coach, second,");
        String line = "train 8;stop 50 9;rider 0 0 1 0;rider 7 3 20 3;rider 4 2 9 1";
        worth(line, 0, 0, "rider", 0);
        worth(line, 0, 2, "rider", 2);
        worth(line, 0, 0, "dest", 0);
        worth(line, 0, 1, "dest", 3);
        worth(line, 0, 0, "coach", 0);
        worth(line, 0, 1, "coach", 7);
        worth(line, 0, 0, "second", 0);
        worth(line, 1, 0, "second", 1);
        worth(line, 998, 0, "second", 998);
        s.is("letters go on", rule("inside riders"), Due.fault(7, 0));
        s.is("and on", rule("inside coachdest"), Due.fault(7, 0));
        s.is("a letter less", rule("inside ride"), Due.fault(7, 0));
        s.is("a large letter", rule("inside Rider"), Due.fault(7, 0));
        s.is("a large letter behind", rule("inside rideR"), Due.fault(7, 0));
        s.is("a large letter behind a WORD", rule("inside riderR"), Due.fault(12, 0));
        s.is("the byte ahead of a", rule("inside rider`"), Due.fault(12, 0));
        s.is("the byte behind z", rule("inside rider{"), Due.fault(12, 0));
        s.is("digits right behind letters", rule("inside2"), 0);
        s.is("another first letter", rule("inside xider"), Due.fault(7, 0));
        s.is("another last letter", rule("inside ridex"), Due.fault(7, 0));
        s.is("a goes on", rule("inside ridera"), Due.fault(7, 0));
        s.is("z goes on", rule("inside riderz"), Due.fault(7, 0));
        eachWordInItsPlace();
    }

    private static void eachWordInItsPlace() {
        String ofLine = " train dest stop parting shut trolley seats rider told platform ";
        String ofRule = " inside outside stay ";
        String ofSum = " rider dest coach second left right near halt loads pace full seats moved ";
        String all = ofLine + ofRule + ofSum + "if and or not";
        for (String word : all.trim().split(" +")) {
            String spaced = " " + word + " ";
            // what stands there has its FAULT, if any, behind the WORD or is one of kind 4
            int inLine = line("train 2;stop 1 1;" + word);
            s.is(word + " in a LINE", inLine == Due.fault(17, 0), !ofLine.contains(spaced));
            int inRule = rule(word);
            s.is(word + " in a RULE", inRule == Due.fault(0, 0), !ofRule.contains(spaced));
            int inSum = rule("inside " + word);
            s.is(word + " in a SUM", inSum, ofSum.contains(spaced) ? 0 : Due.fault(7, 0));
        }
    }

    private static void left() {
        s.says("left (seconds till PARTING, 0 from then on),");
        String line = "train 2;stop 5 5;stop 5 5;parting 0;rider 0 0 1 0";
        worth(line, 0, 0, "left", 10);
        worth(line, 9, 0, "left", 1);
        worth(line, 10, 0, "left", 0);
        worth(line, 11, 0, "left", 0);
        worth(line, 998, 0, "left", 0);
    }

    private static void right() {
        s.says("right (1 if their COACH goes to their DEST, else 0),");
        String line = "train 3;dest 0 0 1;stop 50 9;rider 0 0 1 0;rider 0 1 1 0;rider 2 1 1 0;rider 2 3 1 0";
        worth(line, 0, 0, "right", 1);
        worth(line, 0, 1, "right", 0);
        worth(line, 0, 2, "right", 1);
        worth(line, 0, 3, "right", 0);
    }

    private static void near() {
        s.says("near (of COACHES that go there the nearest, of several the least; 99 none),");
        String line = "train 8;dest 1 0 2 1 0 1 0 0;stop 50 9;rider 1 1 1 0;rider 2 1 1 0;rider 4 1 1 0;rider 7 1 1 0;"
                + "rider 5 1 1 0;rider 0 3 1 0";
        worth(line, 0, 0, "near", 0);
        worth(line, 0, 1, "near", 3);
        worth(line, 0, 2, "near", 3);
        worth(line, 0, 3, "near", 5);
        worth(line, 0, 4, "near", 5);
        worth(line, 0, 5, "near", 99);
        worth("train 2;dest 0 1;stop 50 9;rider 1 0 1 0", 0, 0, "near", 0);
        worth("train 2;dest 0 1;stop 50 9;rider 0 1 1 0", 0, 0, "near", 1);
    }

    private static void halt() {
        s.says("halt (seconds till the HALT that is ends; 0 without),");
        String line = "train 2;stop 2 3;stop 1 1;rider 0 0 1 0";
        int[] halts = {0, 0, 3, 2, 1, 0, 1, 0, 0};
        for (int second = 0; second < halts.length; second++) {
            worth(line, second, 0, "halt", halts[second]);
        }
        worth("train 2;stop 1 60;rider 0 0 1 0", 1, 0, "halt", 60);
    }

    private static void otherWords() {
        s.says("loads, pace, full (RIDERS in their COACH), seats (of it), moved (GOINGS they began).");
        String line = "train 3;stop 50 9;seats 0 0;seats 1 9;rider 0 0 1 0;rider 1 0 20 3;rider 1 0 5 1;rider 1 0 5 2;"
                + "rider 1 0 5 2;rider 1 0 5 2";
        worth(line, 0, 0, "loads", 0);
        worth(line, 0, 1, "loads", 3);
        worth(line, 0, 2, "loads", 1);
        worth(line, 0, 3, "loads", 2);
        worth(line, 0, 0, "pace", 1);
        worth(line, 0, 1, "pace", 20);
        worth(line, 0, 0, "full", 1);
        worth(line, 0, 1, "full", 5);
        worth("train 2;stop 9 9" + ";rider 0 0 1 0".repeat(6), 0, 5, "full", 6);
        worth(line, 0, 0, "seats", 0);
        worth(line, 0, 1, "seats", 9);
        worth("train 2;stop 9 9;rider 0 0 1 0", 0, 0, "seats", 4);
        for (int moved = 0; moved < 3; moved++) {
            FrontFour x = Due.train(line);
            for (int i = 0; i < moved; i++) {
                x.inside(0, i % 2 == 0 ? 1 : -1);
                x.pass(1);
            }
            s.is("moved " + moved, holds(x, 0, "moved=" + moved), true);
        }
        // who goes is in the COACH they left till the GOING ends
        for (int seconds = 4; seconds <= 5; seconds++) {
            FrontFour x = Due.train("train 3;stop 50 9;rider 0 0 5 0;rider 1 0 1 0");
            x.inside(0, 1);
            x.pass(seconds);
            s.is("full at " + seconds, holds(x, 1, "full=" + (seconds == 5 ? 2 : 1)), true);
        }
    }

    private static void divisions() {
        s.says("/ is towards 0, % its rest, both 0 by 0; all goes round in 64 bits.");
        // 32768 four times is 2 to the 60, by 8 it has gone round to the least number of 64 bits
        String large = "32768*32768*32768*32768";
        String least = large + "*8";
        String[] hold = {"7/2=3", "8/2=4", "9/2=4", "7/8=0", "7%2=1", "8%2=0", "7%8=7", "7/1=7", "7%1=0", "7/0=0", "7%0=0",
            "0/0=0", "0%0=0", "1+7/0=1", "7*2%0+3=3", least + "<0", large + "*7>0", large + "*7+" + large + "<0",
            least + "=0-" + least, least + "-1>0", large + "*16=0", large + "*16+5=5", least + "/3*3<0",
            least + "%3=0-2", least + "/2=0-" + large + "*4", least + "/0=0", "0-7/2=0-3", "0-7%4=0-3"};
        for (String test : hold) {
            s.is(test, holds(test), true);
        }
        String[] fail = {least + ">0", least + "-1<0", large + "*7<0", "0-7/2=0-4"};
        for (String test : fail) {
            s.is(test, holds(test), false);
        }
        // a SUM of more than 32 bits is not the COACH of its low half
        FrontFour x = Due.train("train 2;stop 9 9;rider 0 0 1 0");
        Due.rule(x, "inside 65536*65536+1");
        Due.rule(x, "inside " + large + "*16+1");
        x.run(0, 3);
        s.is("2 to the 32 and 1 is no COACH", x.rider(0, 7), 0);
        x.run(1, 3);
        s.is("2 to the 64 and 1 is COACH 1", x.rider(0, 0), 1);
    }

    private static void blanks() {
        s.says("Blanks (32) stand between as one likes.");
        s.is("none", rule("stay if1<=2or[3>4]"), 0);
        s.is("one", rule(" stay if 1 <= 2 or [ 3 > 4 ] "), 0);
        s.is("many", rule("   stay   if   1   <=   2   or   [   3   >   4   ]   ;   stay   "), 0);
        s.is("in a WORD", rule("st ay"), Due.fault(0, 0));
        s.is("in a NUMBER", rule("inside 1 2"), Due.fault(9, 0));
        s.is("in a SIGN", rule("stay if 1 < = 2"), Due.fault(12, 0));
        s.is("none in a LINE", line("train2;stop1 1;rider0 0 1 0"), 1);
        s.is("many in a LINE", line("  train   2  ;  stop  1  1  "), 0);
        s.is("byte 31", rule("stay" + (char) 31), Due.fault(4, 0));
        s.is("byte 33", rule("stay!"), Due.fault(4, 0));
        s.is("byte 9", rule("stay\tif 1=1"), Due.fault(4, 0));
        s.is("byte 10", rule("stay\n"), Due.fault(4, 0));
        s.is("byte 0", rule("stay\0"), Due.fault(4, 0));
        s.is("byte 160", rule("stay" + (char) 160), Due.fault(4, 0));
        s.is("byte 32", rule("stay "), 0);
    }

    private static void depth() {
        s.says("[ and not lie within one another 10 deep at most;");
        for (int n = 9; n <= 12; n++) {
            int brackets = n <= 10 ? 0 : Due.fault(18, 2);
            s.is(n + " [", rule("stay if " + "[".repeat(n) + "1=1" + "]".repeat(n)), brackets);
            int nots = n <= 10 ? 0 : Due.fault(48, 2);
            s.is(n + " not", rule("stay if " + "not ".repeat(n) + "1=1"), nots);
        }
        s.is("5 not and 5 [", rule("stay if " + "not[".repeat(5) + "1=1" + "]".repeat(5)), 0);
        s.is("6 not and 5 [", rule("stay if " + "not[".repeat(5) + "not 1=1" + "]".repeat(5)), Due.fault(28, 2));
        s.is("5 not and 6 [", rule("stay if " + "not[".repeat(5) + "[1=1" + "]".repeat(6)), Due.fault(28, 2));
        s.is("10 deep and back and 10 deep", rule("stay if " + "[".repeat(10) + "1=1" + "]".repeat(10) + " and "
                + "[".repeat(10) + "1=1" + "]".repeat(10)), 0);
        s.is("one behind another is not within", rule("stay if " + "not 1=2 and ".repeat(11) + "1=1"), 0);
        s.is("10 deep in another CLAUSE", rule("stay if not 1=1;stay if " + "not ".repeat(10) + "1=1"), 0);
        s.is("10 not of one that holds", holds("[" + "not ".repeat(8) + "1=1]"), true);
        s.is("9 not of one that holds", holds("not ".repeat(9) + "1=1"), false);
    }

    private static void sixty() {
        s.says("at most 60 VALUES (of SUMS) and FACTS made of a SIGN, together.");
        for (int n = 59; n <= 62; n++) {
            int want = n <= 60 ? 0 : Due.fault(127, 3);
            s.is(n + " VALUES", rule("inside 1" + "+1".repeat(n - 1)), want);
        }
        // each FACT is three: two VALUES and itself
        s.is("19 FACTS, 57", rule("stay if 1=1" + " or 1=1".repeat(18)), 0);
        s.is("20 FACTS, 60", rule("stay if 1=1" + " or 1=1".repeat(19)), 0);
        s.is("21 FACTS, 63", rule("stay if 1=1" + " or 1=1".repeat(20)), Due.fault(148, 3));
        // 58 VALUES, a VALUE, and the FACT's SIGN is the 60th: its second SUM is too many
        s.is("a VALUE behind the 60th", rule("inside 1" + "+1".repeat(57) + " if 1=1"), Due.fault(128, 3));
        s.is("a FACT as the 61st", rule("inside 1" + "+1".repeat(58) + " if 1=1"), Due.fault(129, 3));
        s.is("60 with a FACT", rule("inside 1" + "+1".repeat(56) + " if 1=1"), 0);
        s.is("of all CLAUSES together", rule("inside 1" + "+1".repeat(29) + ";inside 1" + "+1".repeat(29)), 0);
        s.is("one more in the second", rule("inside 1" + "+1".repeat(29) + ";inside 1" + "+1".repeat(30)),
                Due.fault(134, 3));
        s.is("a RULE behind another begins anew", twoRulesOfSixty(), 1);
        s.is("WORDS are VALUES", rule("inside dest" + "+dest".repeat(60)), Due.fault(307, 3));
        s.is("brackets, not, and, or are none", rule("stay if not[1=1]" + "and not[1=1]".repeat(19)), 0);
    }

    private static int twoRulesOfSixty() {
        FrontFour x = new FrontFour();
        Due.rule(x, "inside 1" + "+1".repeat(59));
        return Due.rule(x, "inside 1" + "+1".repeat(59));
    }

    private static void firstFault() {
        s.says("FAULTS, the first along the text, 1 + 8 * its place and:");
        s.is("place 0", rule("x"), -2 - 1);
        s.is("place 1", rule(" x"), -2 - 9);
        s.is("place 399", rule(" ".repeat(399) + "x"), -2 - 3193);
        s.is("place 400", rule(" ".repeat(400)), -2 - 3201);
        s.is("kind 1 at place 7", rule("inside 100000"), -2 - 58);
        s.is("kind 0 ahead of kind 1", rule("inside ! 100000"), Due.fault(7, 0));
        s.is("kind 1 ahead of kind 0", rule("inside 100000 !"), Due.fault(7, 1));
        s.is("kind 4 ahead of kind 0", line("train 2;train !"), Due.fault(8, 4));
        s.is("a bad NUMBER ahead of a missing STOP", line("train 9"), Due.fault(6, 1));
        s.is("of two bad NUMBERS the first", line("train 2;stop 0 0"), Due.fault(13, 1));
        s.is("a bad NUMBER ahead of a CLAUSE too many", line("train 2;stop 1 1" + ";shut 0".repeat(37) + ";shut 1;shut 0"),
                Due.fault(281, 1));
    }

    private static void faultsOfKind0() {
        s.says("0 a byte or WORD that can't stand there, or the end (behind the last byte; also without a STOP;"
                + " a DEST less than COACHES);");
        s.is("a byte", line("train 2,stop 1 1"), Due.fault(7, 0));
        s.is("a WORD", line("train two"), Due.fault(6, 0));
        s.is("a WORD as CLAUSE", line("train 2;go 1"), Due.fault(8, 0));
        s.is("a NUMBER as CLAUSE", line("train 2;1"), Due.fault(8, 0));
        s.is("the end", line("train"), Due.fault(5, 0));
        s.is("the end behind blanks", line("train  "), Due.fault(7, 0));
        s.is("the end in a CLAUSE", line("train 2;stop 1"), Due.fault(14, 0));
        s.is("without a STOP", line("train 2;platform 1"), Due.fault(18, 0));
        s.is("a DEST less at the end", line("train 3;stop 1 1;dest 0 0"), Due.fault(25, 0));
        s.is("a DEST less at ;", line("train 3;dest 0 0;stop 1 1"), Due.fault(16, 0));
        s.is("neither a STOP nor all DESTS", line("train 3;dest 0 0"), Due.fault(16, 0));
        s.is("the end of a RULE", rule("inside"), Due.fault(6, 0));
    }

    private static void faultsOfKind1() {
        s.says("1 a NUMBER of more digits, or not as told;");
        s.is("5 digits, too large", line("train 2;stop 12345 1"), Due.fault(13, 1));
        s.is("6 digits", line("train 2;stop 123456 1"), Due.fault(13, 1));
        s.is("6 digits as small as it should be", line("train 2;stop 000001 1"), Due.fault(13, 1));
        s.is("one too large", line("train 2;stop 100 1"), Due.fault(13, 1));
        s.is("as told", line("train 2;stop 99 1"), 0);
        s.is("one too small", line("train 2;stop 0 1"), Due.fault(13, 1));
        s.is("11 digits", rule("inside 10000000000"), Due.fault(7, 1));
        s.is("a VALUE of a FACT", rule("stay if 1=100000"), Due.fault(10, 1));
    }

    private static void faultsOfKind2() {
        s.says("2 too deep (at the sign that opens, or the word not);");
        s.is("at [", rule("stay if " + "[ ".repeat(11) + "1=1"), Due.fault(28, 2));
        s.is("at not", rule("stay if " + "not  ".repeat(11) + "1=1"), Due.fault(58, 2));
        s.is("ahead of what lies in it", rule("stay if " + "[ ".repeat(11) + "!"), Due.fault(28, 2));
        s.is("10 deep, nothing in it", rule("stay if " + "[ ".repeat(10) + "!"), Due.fault(28, 0));
    }

    private static void faultsOfKind3() {
        s.says("3 one VALUE or FACT too many (at its first byte; of a FACT at its SIGN);");
        String sixty = "inside 1" + "+1".repeat(59);
        s.is("a NUMBER", rule(sixty + " +  12345"), Due.fault(130, 3));
        s.is("a WORD", rule(sixty + " +  moved"), Due.fault(130, 3));
        s.is("in a TEST", rule(sixty + " if  12=1"), Due.fault(131, 3));
        s.is("at <=", rule("inside 1" + "+1".repeat(58) + " if 1  <= 1"), Due.fault(131, 3));
        s.is("in a SUM of a FACT", rule("inside 1" + "+1".repeat(58) + " if 1+1 = 1"), Due.fault(130, 3));
        s.is("the end ahead of the 61st", rule(sixty + "+"), Due.fault(127, 0));
        s.is("no SIGN where the 61st would be", rule("inside 1" + "+1".repeat(58) + " if 1 ! 1"), Due.fault(130, 0));
    }

    private static void faultsOfKind4() {
        s.says("4 one CLAUSE too many, a second train, dest, parting or platform, another CLAUSE ahead of train,"
                + " a seventh STOP or RIDER (at its first byte).");
        String forty = "train 2;stop 1 1" + ";shut 0".repeat(38);
        s.is("one CLAUSE too many", line(forty + ";  shut 0"), Due.fault(285, 4));
        s.is("a second train", line("train 2;  train 2"), Due.fault(10, 4));
        s.is("a second dest", line("train 2;dest 0 0;  dest"), Due.fault(19, 4));
        s.is("a second parting", line("train 2;stop 1 1;parting 0;  parting"), Due.fault(29, 4));
        s.is("a second platform", line("train 2;platform 1;  platform"), Due.fault(21, 4));
        String[] others = {"dest 0 0", "stop 1 1", "parting 0", "shut 0", "trolley 0 1", "seats 0 1", "rider 0 0 1 0",
            "told 0 1", "platform 1"};
        for (String other : others) {
            s.is(other + " ahead of train", line("  " + other + ";train 2;stop 1 1"), Due.fault(2, 4));
        }
        s.is("a seventh STOP", line("train 2" + ";stop 1 1".repeat(6) + ";  stop"), Due.fault(64, 4));
        s.is("a seventh RIDER", line("train 2" + ";rider 0 0 1 0".repeat(6) + ";  rider"), Due.fault(94, 4));
        s.is("a second shut, trolley, seats, told are none", line("train 2;stop 1 1;rider 0 0 1 0;shut 0;shut 0;"
                + "trolley 0 1;trolley 0 1;seats 0 1;seats 0 1;told 0 1;told 0 1"), 1);
    }

    private static void ofOnePlaceTheLeast() {
        s.says("Of one place the least.");
        String sixty = "inside 1" + "+1".repeat(59);
        s.is("a 61st VALUE of 6 digits: 1 and 3", rule(sixty + "+100000"), Due.fault(127, 1));
        s.is("a 61st VALUE that is no WORD: 0 and 3", rule(sixty + "+stop"), Due.fault(127, 0));
        s.is("a 61st VALUE: 3", rule(sixty + "+10000"), Due.fault(127, 3));
        String twelve = "stay" + ";stay".repeat(11);
        s.is("a 13th CLAUSE that is none: 0 and 4", rule(twelve + ";go"), Due.fault(60, 0));
        s.is("a 13th CLAUSE: 4", rule(twelve + ";inside"), Due.fault(60, 4));
        String forty = "train 2;stop 1 1" + ";shut 0".repeat(38);
        s.is("a 41st CLAUSE that is none: 0 and 4", line(forty + ";go"), Due.fault(283, 0));
        s.is("a 41st CLAUSE that is a second train: 4", line(forty + ";train 2"), Due.fault(283, 4));
        s.is("no CLAUSE ahead of train: 0 and 4", line("go 1;train 2"), Due.fault(0, 0));
        s.is("a CLAUSE of RULES ahead of train: 0 and 4", line("stay;train 2"), Due.fault(0, 0));
    }

    private static void aRule() {
        s.says("The TAPE, which is empty then, is a RULE: its number;");
        FrontFour x = new FrontFour();
        for (int n = 0; n < 6; n++) {
            Due.tell(x, "inside " + n);
            s.is("RULES ahead", x.count(3), n);
            s.is("its number", x.rule(), n);
            s.is("bytes behind", x.count(12), 0);
            s.is("RULES behind", x.count(3), n + 1);
        }
        s.says("-2 - its FAULT;");
        x = Due.train("train 2;stop 1 1");
        s.is("a FAULT", Due.rule(x, "stay;go"), Due.fault(5, 0));
        s.is("FAULT 1", x.rule(), -3);
        s.is("no RULE", x.count(3), 0);
        s.is("the TAPE is empty", x.count(12), 0);
        s.is("none is run", x.run(0, 1), -1);
        s.is("the next is number 0", Due.rule(x, "stay"), 0);
        s.is("a FAULT behind it", Due.rule(x, "stay;go"), Due.fault(5, 0));
        s.is("the next is number 1", Due.rule(x, "stay"), 1);
    }

    private static void refusedRules() {
        s.says("NONE, and nothing happens: there are 6.");
        FrontFour x = Due.train("train 2;stop 9 9;rider 0 0 1 0");
        for (int n = 0; n < 5; n++) {
            Due.rule(x, "stay");
        }
        s.is("the sixth", Due.rule(x, "stay"), 5);
        Due.tell(x, "inside 1");
        s.is("the seventh", x.rule(), -1);
        s.is("the TAPE stays", x.count(12), 8);
        s.is("six", x.count(3), 6);
        x.end(7);
        s.is("a seventh with a FAULT", x.rule(), -1);
        x.end(0);
        s.is("a seventh of nothing", x.rule(), -1);
        s.is("another LINE leaves them", Due.line(x, "train 2;stop 9 9;rider 0 0 1 0"), 1);
        s.is("six still", x.count(3), 6);
        x.run(5, 9);
        s.is("the sixth is as it was told", x.rider(0, 7), 0);
    }
}
