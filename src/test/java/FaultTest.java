import java.util.Random;

/** Promises 4 and 5: texts that are spoilt here and there by a fixed seed, each FAULT held against the Grammar. */
public final class FaultTest {
    private static final String[] LINE_PARTS = {"train 4", "dest 0 1 1 2", "stop 10 5", "stop 99 60", "parting 0",
        "shut 1", "trolley 2 999", "seats 3 9", "rider 0 1 2 3", "rider 3 2 20 0", "told 0 15", "platform 20", "dest 0 1",
        "stop 0 61", "told 5 1000"};
    private static final String[] RULE_PARTS = {"stay", "inside near", "outside dest+coach*2-1", "stay if left<9",
        "inside 0 if not [second>=10 and halt=0] or full>seats", "outside rider%2 if moved<=3 and pace/loads<>1",
        "inside 1 if [[[right=1]]]", "stay if not not not 1=1", "inside coach+1+1+1+1+1+1+1+1+1+1+1 if 1+2=3 or 4<5"};
    private static final String[] BITS = {" ", ";", "[", "]", "not ", "and ", "or ", "if ", "1", "0", "99999", "123456",
        "<", "=", ">", "<=", "+", "-", "*", "/", "%", "stay", "x", "A", "\0", "\u00e9", "rider", "stop 1 1", "train 2"};

    public static void main(String[] args) {
        Due due = new Due();
        Random random = new Random(99);
        int good = 0;
        for (int n = 0; n < 40000; n++) {
            FrontFour x = new FrontFour();
            String line = spoilt(random, n % 2 == 0 ? joined(random, LINE_PARTS, 45, "train 4;stop 9 9;")
                    : joined(random, LINE_PARTS, 6, "train 4;stop 9 9;"));
            int fault = Grammar.ofLine(line);
            int got = Due.line(x, line);
            due.is("line " + line, got, fault == 0 ? Math.max(got, 0) : -2 - fault);
            String rule = spoilt(random, n % 2 == 0 ? joined(random, RULE_PARTS, 14, "") : joined(random, RULE_PARTS, 3, ""));
            fault = Grammar.ofRule(rule);
            due.is("rule " + rule, Due.rule(x, rule), fault == 0 ? 0 : -2 - fault);
            good += fault == 0 ? 1 : 0;
        }
        due.is("some RULES are good", good > 1000, true);
        due.close();
    }

    private static String joined(Random random, String[] parts, int most, String ahead) {
        StringBuilder text = new StringBuilder(ahead);
        int count = 1 + random.nextInt(most);
        for (int i = 0; i < count; i++) {
            String part = parts[random.nextInt(parts.length)];
            if (text.length() + part.length() > 380) {
                break;
            }
            text.append(i == 0 ? "" : ";").append(part);
        }
        return text.toString();
    }

    private static String spoilt(Random random, String text) {
        StringBuilder spoilt = new StringBuilder(text);
        for (int i = random.nextInt(3); i > 0; i--) {
            int place = random.nextInt(spoilt.length() + 1);
            switch (random.nextInt(3)) {
                case 0:
                    spoilt.insert(place, BITS[random.nextInt(BITS.length)]);
                    break;
                case 1:
                    if (place < spoilt.length()) {
                        spoilt.deleteCharAt(place);
                    }
                    break;
                default:
                    spoilt.setLength(place);
                    break;
            }
        }
        return spoilt.substring(0, Math.min(400, spoilt.length()));
    }
}
