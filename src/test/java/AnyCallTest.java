import java.util.Random;

/** All promises: any arguments in any state are answered, alike on two objects, and asking changes nothing. */
public final class AnyCallTest {
    private static final int RUNS = 1500;
    private static final int CALLS = 512;
    private static final int[] EDGES = {Integer.MIN_VALUE, -2, 4, 5, 6, 7, 8, 9, 12, 15, 20, 63, 64, 99, 100, 999, 1000,
        Integer.MAX_VALUE};
    private static final String[] LINES = {"train 2;stop 1 1",
        "train 8;dest 0 1 2 3 0 1 2 3;stop 5 60;stop 9 20;rider 0 3 1 0;rider 7 0 3 1;rider 3 1 2 2;rider 4 2 1 3",
        "train 5;dest 0 0 1 1 0;stop 20 9;stop 5 30;parting 0;shut 2;trolley 1 40;rider 0 1 2 0;rider 4 1 5 1;told 0 12",
        "train 3;dest 1 2 1;stop 99 60;stop 99 60;stop 99 60;stop 99 60;stop 99 60;stop 99 60;platform 1;seats 0 0;"
            + "rider 1 1 1 0;rider 1 1 1 0;rider 1 1 1 0;rider 1 1 1 0;rider 1 1 1 0;rider 1 1 1 0", "train 9", "dest"};
    private static final String[] RULES = {"stay", "inside near;outside near", "inside second%8 if halt=0;outside 0",
        "inside 1/0+rider if not left>9 and moved<3", "inside 99999*99999*99999*99999", "stay if", "inside coach-1 or"};

    public static void main(String[] args) {
        Due due = new Due();
        Random random = new Random(31);
        for (int n = 0; n < RUNS; n++) {
            FrontFour one = new FrontFour();
            FrontFour other = new FrontFour();
            for (int i = 0; i < CALLS; i++) {
                int call = random.nextInt(36);
                int[] a = new int[5];
                for (int k = 0; k < 5; k++) {
                    a[k] = argument(random);
                }
                int before = state(one);
                int got = answer(one, call, a);
                due.is("call " + call, answer(other, call, a), got);
                if (call >= 14 && call < 29) {
                    due.is("asking changes nothing, call " + call, state(one), before);
                }
            }
        }
        due.close();
    }

    private static int argument(Random random) {
        int draw = random.nextInt(10);
        return draw == 0 ? random.nextInt() : draw == 1 ? EDGES[random.nextInt(EDGES.length)] : random.nextInt(5) - 1;
    }

    private static int state(FrontFour x) {
        int hash = 7;
        for (int what = 0; what < 13; what++) {
            hash = 31 * hash + x.count(what);
        }
        for (int r = 0; r < 6; r++) {
            for (int what = 0; what < 9; what++) {
                hash = 31 * hash + x.rider(r, what);
            }
            hash = 31 * hash + x.way(r, 0);
        }
        return hash;
    }

    private static int answer(FrontFour x, int call, int[] a) {
        switch (call) {
            case 0: return x.feed(a[0], a[1], a[2], a[3], a[4]);
            case 1: return x.end(a[0]);
            case 2: return x.line();
            case 3: return x.rule();
            case 4:
            case 5:
                x.end(0);
                return Due.line(x, LINES[Math.floorMod(a[0], LINES.length)]);
            case 6:
                x.end(0);
                return Due.rule(x, RULES[Math.floorMod(a[0], RULES.length)]);
            case 7: return x.inside(a[0], a[1]);
            case 8: return x.outside(a[0], a[1]);
            case 9: return x.pass(a[0]);
            case 10: return x.shut(a[0], a[1] > 0) ? 1 : 0;
            case 11: return x.undo();
            case 12: return x.run(a[0], a[1]);
            case 13: return x.seen(a[0], a[1], a[2]);
            case 14: return x.coach(a[0], a[1]);
            case 15: return x.way(a[0], a[1]);
            case 16: return x.stop(a[0], a[1]);
            case 17: return x.rider(a[0], a[1]);
            case 18: return x.soonest(a[0]);
            case 19: return x.row(a[0], a[1], a[2]);
            case 20: return x.latest(a[0]);
            case 21: return x.lost();
            case 22: return 64 * x.voice(a[0]) + x.voices();
            case 23: return x.put(a[0]);
            case 24: return x.family(a[0], a[1]);
            case 25: return x.meet(a[0], a[1], a[2]);
            case 26: return x.gotIn(a[0]);
            case 27: return x.sit(a[0]);
            case 28: return x.journeys(a[0], a[1]);
            case 29: return x.seed(a[0]);
            case 30: return x.count(a[0]);
            case 31: return x.image(a[0]);
            case 32: return x.back(a[0]);
            case 33: return x.pass(Math.floorMod(a[0], 9) + 1);
            case 34: return x.run(0, Math.floorMod(a[0], 20) + 1);
            default: return x.inside(Math.floorMod(a[0], 6), a[1] > 0 ? 1 : -1);
        }
    }
}
