import java.util.ArrayList;
import java.util.List;
import java.util.Random;

/** Promises 6 to 32: runs of calls drawn by a fixed seed, each answer held against the Model. */
public final class ModelTest {
    private static final int RUNS = 60;
    private static final int CALLS = 60;

    private final Due due = new Due();
    private final Random random = new Random(4711);
    private FrontFour x;
    private Model model;
    private final List<Model> undo = new ArrayList<>();
    private final Model[] images = new Model[4];
    private final List<String[]> rules = new ArrayList<>();

    public static void main(String[] args) {
        new ModelTest().test();
    }

    private void test() {
        for (int n = 0; n < RUNS; n++) {
            begin(n);
            for (int i = 0; i < CALLS; i++) {
                act(n);
                look(n);
                if (i % 6 == 0) {
                    ask(n);
                }
            }
        }
        due.close();
    }

    private int some(int from, int to) {
        return from + random.nextInt(to - from + 1);
    }

    private void begin(int n) {
        x = new FrontFour();
        undo.clear();
        rules.clear();
        java.util.Arrays.fill(images, null);
        model = new Model();
        String text = draw();
        due.is("run " + n + " line " + text, Due.line(x, text), model.riders.size());
        for (int i = 0; i < 3; i++) {
            String[] parts = RULES[random.nextInt(RULES.length)];
            due.is("run " + n + " rule", Due.rule(x, String.join(";", parts)), i);
            rules.add(parts);
        }
        x.seed(n * 12345);
        model.x = n * 12345;
    }

    /** A LINE, drawn into the model and as a text. */
    private String draw() {
        StringBuilder text = new StringBuilder();
        model.coaches = some(2, 8);
        text.append("train ").append(model.coaches);
        model.dest = new int[model.coaches];
        model.seats = new int[model.coaches];
        model.trolley = new int[model.coaches];
        model.shut = new boolean[model.coaches];
        int dests = some(1, 4);
        text.append(";dest");
        for (int c = 0; c < model.coaches; c++) {
            model.dest[c] = random.nextInt(dests);
            model.seats[c] = 4;
            text.append(' ').append(model.dest[c]);
        }
        int end = 0;
        for (int s = some(1, 6); s > 0; s--) {
            int ride = random.nextInt(4) == 0 ? some(1, 99) : some(1, 20);
            int halt = some(1, 60);
            text.append(";stop ").append(ride).append(' ').append(halt);
            model.halts.add(new int[] {end + ride, end + ride + halt});
            end += ride + halt;
        }
        model.partingStop = model.halts.size() - 1;
        if (random.nextBoolean()) {
            model.partingStop = some(0, model.halts.size() - 1);
            text.append(";parting ").append(model.partingStop);
        }
        if (random.nextBoolean()) {
            model.platform = some(1, 8);
            text.append(";platform ").append(model.platform);
        }
        for (int w = 0; w < model.coaches - 1; w++) {
            if (random.nextInt(5) == 0) {
                model.shut[w] = true;
                text.append(";shut ").append(w);
            }
            if (random.nextInt(4) == 0) {
                model.trolley[w] = random.nextInt(8) == 0 ? some(1, 999) : some(1, 60);
                text.append(";trolley ").append(w).append(' ').append(model.trolley[w]);
            }
        }
        int seated = some(0, model.coaches - 1);
        model.seats[seated] = some(0, 9);
        text.append(";seats ").append(seated).append(' ').append(model.seats[seated]);
        for (int i = some(1, 6); i > 0; i--) {
            drawRider(text);
        }
        return text.toString();
    }

    private void drawRider(StringBuilder text) {
        Model.Rider r = new Model.Rider();
        r.coach = some(0, model.coaches - 1);
        r.dest = random.nextInt(6) == 0 ? some(0, 3) : model.dest[some(0, model.coaches - 1)];
        r.pace = random.nextInt(3) == 0 ? some(1, 20) : some(1, 6);
        r.loads = some(0, 3);
        text.append(";rider ").append(r.coach).append(' ').append(r.dest).append(' ').append(r.pace).append(' ')
                .append(r.loads);
        if (random.nextInt(3) == 0) {
            r.knows = random.nextInt(6) == 0 ? some(0, 999) : some(0, 80);
            text.append(";told ").append(model.riders.size()).append(' ').append(r.knows);
        }
        model.riders.add(r);
    }

    private Model.Rider riderOrNull(int r) {
        return r >= 0 && r < model.riders.size() ? model.riders.get(r) : null;
    }

    private void keep() {
        undo.add(model.copy());
        if (undo.size() > 20) {
            undo.remove(0);
        }
    }

    private void act(int n) {
        String run = "run " + n + " ";
        int r = some(-1, model.riders.size());
        Model.Rider rider = riderOrNull(r);
        int c = some(-1, model.coaches);
        switch (some(0, 11)) {
            case 0:
            case 1:
            case 2:
                int step = random.nextInt(9) == 0 ? some(-2, 2) : random.nextBoolean() ? 1 : -1;
                keep();
                int in = rider == null || Math.abs(step) != 1 ? -1 : model.inside(rider, rider.coach + step);
                settle(in >= 0);
                due.is(run + "inside " + r + " " + step, x.inside(r, step), in);
                break;
            case 3:
                keep();
                int out = rider == null ? -1 : model.outside(rider, c);
                settle(out >= 0);
                due.is(run + "outside " + r + " " + c, x.outside(r, c), out);
                break;
            case 4:
            case 5:
                pass(run, random.nextInt(12) == 0 ? some(-1, 101) : some(1, 9));
                break;
            case 6:
                boolean is = random.nextBoolean();
                boolean may = c >= 0 && c < model.coaches - 1 && model.shut[c] != is;
                if (may) {
                    keep();
                    model.shut[c] = is;
                }
                due.is(run + "shut " + c, x.shut(c, is), may);
                break;
            case 7:
                undo(run);
                break;
            case 8:
                runRule(run, some(-1, 3), random.nextInt(12) == 0 ? some(-1, 101) : some(1, 12));
                break;
            case 9:
                image(run, some(-1, 4));
                break;
            default:
                seen(run, r, c, random.nextInt(3) == 0 ? some(-1, 1000) : some(0, 100));
                break;
        }
    }

    /** What was kept ahead of a call that did nothing can't be UNDONE. */
    private void settle(boolean done) {
        if (!done) {
            undo.remove(undo.size() - 1);
        }
    }

    private void pass(String run, int n) {
        int want = -1;
        if (n >= 1 && n <= 99 && model.second + n <= 999) {
            keep();
            for (int i = 0; i < n; i++) {
                model.tick();
            }
            want = model.second;
        }
        due.is(run + "pass " + n, x.pass(n), want);
    }

    private void undo(String run) {
        int want = -1;
        if (!undo.isEmpty()) {
            Model was = undo.remove(undo.size() - 1);
            was.sightings = model.sightings;
            model = was;
            want = undo.size();
        }
        due.is(run + "undo", x.undo(), want);
    }

    private void image(String run, int k) {
        if (random.nextInt(3) != 0) {
            due.is(run + "image " + k, x.image(k), k < 0 || k > 3 ? -1 : model.second);
            if (k >= 0 && k <= 3) {
                images[k] = model.copy();
            }
            return;
        }
        int want = -1;
        if (k >= 0 && k <= 3 && images[k] != null) {
            model = images[k].copy();
            undo.clear();
            want = model.second;
        }
        due.is(run + "back " + k, x.back(k), want);
    }

    private void seen(String run, int r, int c, int s) {
        int want = -2;
        if (r == -1) {
            if (random.nextInt(3) != 0) {
                return;
            }
            model.sightings.clear();
            want = 0;
        } else if (riderOrNull(r) != null && c >= 0 && c < model.coaches && s >= 0 && s <= 999
                && model.sightings.size() < 12) {
            model.sightings.add(new int[] {r, c, s});
            want = model.sightings.size();
        }
        due.is(run + "seen " + r + " " + c + " " + s, x.seen(r, c, s), want);
    }

    /** RULES whose CLAUSES the model tries by their numbers, see clause. */
    private static final String[][] RULES = {
        {"inside near if right=0 and near<99 and halt<8", "outside near if not right=1", "stay"},
        {"outside near if halt>0 and [right=0 or full>seats]", "inside near if left<60"},
        {"inside second*3%7-1 if moved<5 or rider%2=1", "outside 9-coach if halt>=10"},
        {"stay if second/4%2=0", "inside coach+1 if dest>=coach-loads", "inside 0", "outside 7"},
    };

    private static long word(Model m, int rider, int which) {
        Model.Rider r = m.riders.get(rider);
        switch (which) {
            case 0:
                int near = 99;
                for (int c = m.coaches - 1; c >= 0; c--) {
                    boolean nearer = near == 99 || Math.abs(c - r.coach) <= Math.abs(near - r.coach);
                    near = m.right(r, c) && nearer ? c : near;
                }
                return near;
            case 1:
                return m.haltNow() < 0 ? 0 : m.halts.get(m.haltNow())[1] - m.second;
            case 2:
                return m.right(r, r.coach) ? 1 : 0;
            case 3:
                return Integer.bitCount(m.in(r.coach));
            default:
                return Math.max(0, m.parting() - m.second);
        }
    }

    /** 0: the TEST of a CLAUSE fails; else it is done (2) or may not be (1). */
    private boolean clause(String text, int rider) {
        Model m = model;
        Model.Rider r = m.riders.get(rider);
        long near = word(m, rider, 0);
        long halt = word(m, rider, 1);
        boolean right = word(m, rider, 2) == 1;
        switch (text) {
            case "inside near if right=0 and near<99 and halt<8":
                return !right && near < 99 && halt < 8 && towards(r, near);
            case "outside near if not right=1":
                return !right && along(r, near);
            case "stay":
                return true;
            case "outside near if halt>0 and [right=0 or full>seats]":
                return halt > 0 && (!right || word(m, rider, 3) > m.seats[r.coach]) && along(r, near);
            case "inside near if left<60":
                return word(m, rider, 4) < 60 && towards(r, near);
            case "inside second*3%7-1 if moved<5 or rider%2=1":
                return (r.moved < 5 || rider % 2 == 1) && towards(r, m.second * 3 % 7 - 1);
            case "outside 9-coach if halt>=10":
                return halt >= 10 && along(r, 9 - r.coach);
            case "stay if second/4%2=0":
                return m.second / 4 % 2 == 0;
            case "inside coach+1 if dest>=coach-loads":
                return r.dest >= r.coach - r.loads && towards(r, r.coach + 1);
            case "inside 0":
                return towards(r, 0);
            case "outside 7":
                return along(r, 7);
            default:
                throw new IllegalStateException(text);
        }
    }

    private boolean towards(Model.Rider r, long to) {
        if (to < 0 || to >= model.coaches || to == r.coach) {
            return false;
        }
        return model.inside(r, to < r.coach ? r.coach - 1 : r.coach + 1) >= 0;
    }

    private boolean along(Model.Rider r, long to) {
        return to >= 0 && to < model.coaches && model.outside(r, (int) to) >= 0;
    }

    private void runRule(String run, int rule, int n) {
        int want = -1;
        if (rule >= 0 && rule < 3 && n >= 1 && n <= 99 && model.second + n <= 999) {
            undo.clear();
            for (int i = 0; i < n; i++) {
                for (int r = 0; r < model.riders.size(); r++) {
                    if (!model.riders.get(r).goes() && model.second >= model.riders.get(r).knows) {
                        for (String text : rules.get(rule)) {
                            if (clause(text, r)) {
                                break;
                            }
                        }
                    }
                }
                model.tick();
            }
            want = model.second;
        }
        due.is(run + "run " + rule + " " + n, x.run(rule, n), want);
    }

    /** What is told of the state. */
    private void look(int n) {
        String run = "run " + n + " ";
        int goers = 0;
        int right = 0;
        for (int i = 0; i < model.riders.size(); i++) {
            Model.Rider r = model.riders.get(i);
            int isRight = model.right(r, r.coach) ? 1 : 0;
            int[] want = {r.coach, r.dest, r.pace, r.loads, r.knows, r.to, r.ends, r.moved, isRight};
            for (int what = 0; what < 9; what++) {
                due.is(run + "rider " + i + " " + what, x.rider(i, what), want[what]);
            }
            goers += r.goes() ? 1 : 0;
            right += isRight;
        }
        for (int c = 0; c < model.coaches; c++) {
            due.is(run + "coach in " + c, x.coach(c, 2), model.in(c));
        }
        for (int w = 0; w < model.coaches - 1; w++) {
            due.is(run + "way shut " + w, x.way(w, 0), model.shut[w] ? 1 : 0);
            due.is(run + "way trolley " + w, x.way(w, 1), model.trolley[w]);
            due.is(run + "way who " + w, x.way(w, 2), model.who(w));
        }
        int[] want = {model.coaches, model.halts.size(), model.riders.size(), 3, model.second, model.parting(),
            model.haltNow(), goers, right, model.sightings.size(), undo.size(), (int) model.x, 0, -1};
        for (int what = 0; what < want.length; what++) {
            due.is(run + "count " + what, x.count(what), want[what]);
        }
    }

    /** What is asked of the riders. */
    private void ask(int n) {
        String run = "run " + n + " at " + model.second + " ";
        int lost = 0;
        for (int i = 0; i < model.riders.size(); i++) {
            Model.Rider r = model.riders.get(i);
            int soonest = model.soonest(r, r.knows);
            due.is(run + "soonest " + i, x.soonest(i), soonest == Model.NEVER ? -2 : soonest);
            due.is(run + "latest " + i, x.latest(i), model.latest(r));
            lost |= model.lost(r, r.knows) ? 1 << i : 0;
            due.is(run + "gotIn " + i, x.gotIn(i), model.gotIn(i));
        }
        due.is(run + "lost", x.lost(), lost);
        askRow(run, some(0, model.riders.size() - 1));
        int voices = 0;
        for (int c = 0; c < model.coaches; c++) {
            int voice = model.voice(c);
            due.is(run + "voice " + c, x.voice(c), voice);
            voices |= voice >= 0 ? 1 << c : 0;
        }
        due.is(run + "voices", x.voices(), voices);
        String order = model.order();
        due.is(run + "put", x.put(-1), model.misplaced(order));
        for (int c = 0; c < 9; c++) {
            due.is(run + "put " + c, x.put(c), c < model.coaches ? order.charAt(c) - '0' : -2);
        }
        int set = some(1, (1 << model.riders.size()) - 1);
        int[] family = model.family(set);
        due.is(run + "family " + set, x.family(set, 0), family == null ? -2 : family[0]);
        due.is(run + "family at " + set, x.family(set, 1), family == null ? -2 : family[1]);
        for (int i = 0; i < model.riders.size(); i++) {
            for (int k = 0; k < model.riders.size(); k++) {
                int[] met = model.meet(model.riders.get(i), model.riders.get(k));
                for (int what = 0; what < 2; what++) {
                    due.is(run + "meet " + i + " " + k, x.meet(i, k, what), i == k ? -1 : met == null ? -2 : met[what]);
                }
            }
        }
        for (int d = 0; d < 4; d++) {
            due.is(run + "sit " + d, x.sit(d), model.sit(d));
        }
        int m = some(1, 2);
        int[] journeys = model.journeys(m);
        due.is(run + "journeys lost", x.journeys(m, 0), journeys[0]);
        due.is(run + "journeys ahead", x.journeys(m, 1), journeys[1]);
    }

    private void askRow(String run, int i) {
        List<int[]> row = model.row(model.riders.get(i));
        int size = row == null ? 0 : row.size();
        for (int k = 0; k <= size + 1; k++) {
            for (int what = 0; what < 3; what++) {
                due.is(run + "row " + i + " " + k + " " + what, x.row(i, k, what), k < size ? row.get(k)[what] : -2);
            }
        }
    }
}
