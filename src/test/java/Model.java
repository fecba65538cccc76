import java.util.ArrayList;
import java.util.List;
import java.util.TreeSet;

/**
 * The document in its plainest form, second by second and with no thought of speed, for ModelTest to hold
 * FrontFour against: what can be is found by trying all that can be, never by a shortest way.
 */
final class Model {
    static final int NEVER = Integer.MAX_VALUE;

    static final class Rider {
        int coach;
        int dest;
        int pace;
        int loads;
        int knows;
        int to = -1;
        int ends = -1;
        int through = -1;
        int moved;

        Rider copy() {
            Rider r = new Rider();
            r.coach = coach;
            r.dest = dest;
            r.pace = pace;
            r.loads = loads;
            r.knows = knows;
            r.to = to;
            r.ends = ends;
            r.through = through;
            r.moved = moved;
            return r;
        }

        boolean goes() {
            return to >= 0;
        }

        int place() {
            return goes() ? to : coach;
        }

        int times() {
            return new int[] {1, 1, 3, 5}[loads];
        }
    }

    int coaches;
    int[] dest;
    int[] seats;
    int[] trolley;
    boolean[] shut;
    List<int[]> halts = new ArrayList<>();
    int partingStop;
    int platform = 4;
    List<Rider> riders = new ArrayList<>();
    int second;
    List<int[]> sightings = new ArrayList<>();
    long x;

    Model copy() {
        Model m = new Model();
        m.coaches = coaches;
        m.dest = dest.clone();
        m.seats = seats.clone();
        m.trolley = trolley.clone();
        m.shut = shut.clone();
        m.halts = new ArrayList<>(halts);
        m.partingStop = partingStop;
        m.platform = platform;
        for (Rider r : riders) {
            m.riders.add(r.copy());
        }
        m.second = second;
        m.sightings = new ArrayList<>(sightings);
        m.x = x;
        return m;
    }

    int parting() {
        return halts.get(partingStop)[1];
    }

    boolean right(Rider r, int coach) {
        return dest[coach] == r.dest;
    }

    /** The end of a GOING INSIDE begun at a second, or -1. */
    int insideEnd(Rider r, int from, int to, int at) {
        if (to < 0 || to >= coaches || Math.abs(from - to) != 1) {
            return -1;
        }
        int way = Math.min(from, to);
        int end = at + r.pace * r.times();
        if (shut[way] || at < trolley[way]) {
            return -1;
        }
        return dest[from] != dest[to] && end > parting() ? -1 : end;
    }

    int outsideEnd(Rider r, int from, int to, int at) {
        if (to < 0 || to >= coaches || from == to || at >= parting()) {
            return -1;
        }
        int end = at + platform * Math.abs(from - to) * r.times();
        for (int[] halt : halts) {
            if (halt[0] <= at && at <= halt[1] && end <= halt[1]) {
                return end;
            }
        }
        return -1;
    }

    int inside(Rider r, int to) {
        int end = r.goes() ? -1 : insideEnd(r, r.coach, to, second);
        if (end < 0 || who(Math.min(r.coach, to)) >= 0) {
            return -1;
        }
        r.through = Math.min(r.coach, to);
        return begin(r, to, end);
    }

    int outside(Rider r, int to) {
        int end = r.goes() ? -1 : outsideEnd(r, r.coach, to, second);
        return end < 0 ? -1 : begin(r, to, end);
    }

    private static int begin(Rider r, int to, int end) {
        r.to = to;
        r.ends = end;
        r.moved++;
        return end;
    }

    int who(int way) {
        for (int i = 0; i < riders.size(); i++) {
            if (riders.get(i).goes() && riders.get(i).through == way) {
                return i;
            }
        }
        return -1;
    }

    void tick() {
        second++;
        for (Rider r : riders) {
            if (r.ends == second) {
                r.coach = r.to;
                r.to = -1;
                r.ends = -1;
                r.through = -1;
            }
        }
    }

    int start(Rider r, int knows) {
        return Math.max(Math.max(second, knows), r.ends);
    }

    /** Who stands where at each second, from a COACH and a second on. */
    boolean[][] stand(Rider r, int from, int at, int last) {
        boolean[][] stands = new boolean[last + 1][coaches];
        if (at <= last) {
            stands[at][from] = true;
        }
        for (int s = at; s <= last; s++) {
            for (int c = 0; c < coaches; c++) {
                if (stands[s][c]) {
                    for (int to = 0; to < coaches; to++) {
                        int[] ends = {insideEnd(r, c, to, s), outsideEnd(r, c, to, s), s + 1};
                        for (int i = 0; i < 3; i++) {
                            if (ends[i] > s && ends[i] <= last) {
                                stands[ends[i]][i == 2 ? c : to] = true;
                            }
                        }
                    }
                }
            }
        }
        return stands;
    }

    int soonestTo(Rider r, int knows, int coach) {
        boolean[][] stands = stand(r, r.place(), start(r, knows), 999);
        for (int s = 0; s <= 999; s++) {
            if (stands[s][coach]) {
                return s;
            }
        }
        return NEVER;
    }

    int soonest(Rider r, int knows) {
        int best = NEVER;
        boolean[][] stands = stand(r, r.place(), start(r, knows), 999);
        for (int s = 999; s >= 0; s--) {
            for (int c = 0; c < coaches; c++) {
                if (stands[s][c] && right(r, c)) {
                    best = s;
                }
            }
        }
        return best;
    }

    boolean canBe(Rider r, int from, int at, int by) {
        if (at > by) {
            return false;
        }
        boolean[][] stands = stand(r, from, at, by);
        for (int c = 0; c < coaches; c++) {
            if (right(r, c)) {
                for (int s = at; s <= by; s++) {
                    if (stands[s][c]) {
                        return true;
                    }
                }
            }
        }
        return false;
    }

    int latest(Rider r) {
        for (int s = parting(); s >= 0; s--) {
            if (canBe(r, r.place(), s, parting())) {
                return s;
            }
        }
        return -2;
    }

    /** The ROW as {kind, to, begin}, null without one. */
    List<int[]> row(Rider r) {
        int by = soonest(r, r.knows);
        if (by == NEVER) {
            return null;
        }
        List<int[]> row = new ArrayList<>();
        int at = r.place();
        int now = start(r, r.knows);
        while (!right(r, at)) {
            int[] next = null;
            for (int i = 0; i < coaches + 2 && next == null; i++) {
                int to = i == 0 ? at - 1 : i == 1 ? at + 1 : i - 2;
                for (int s = now; s <= by; s++) {
                    int end = i < 2 ? insideEnd(r, at, to, s) : outsideEnd(r, at, to, s);
                    if (end >= 0) {
                        if (canBe(r, to, end, by)) {
                            next = new int[] {i < 2 ? 0 : 1, to, s, end};
                        }
                        break;
                    }
                }
            }
            row.add(next);
            at = next[1];
            now = next[3];
        }
        return row;
    }

    boolean lost(Rider r, int knows) {
        return !right(r, r.place()) && soonest(r, knows) > parting();
    }

    int voice(int coach) {
        int least = -2;
        for (Rider r : riders) {
            if (r.place() == coach && !right(r, coach)) {
                int latest = latest(r);
                if (latest >= 0 && (least < 0 || latest < least)) {
                    least = latest;
                }
            }
        }
        return least;
    }

    /** All rows of blocks, by their texts; of the best the first. */
    String order() {
        TreeSet<String> rows = new TreeSet<>();
        orders("", "", rows);
        String best = null;
        for (String row : rows) {
            if (best == null || misplaced(row) < misplaced(best)) {
                best = row;
            }
        }
        return best;
    }

    private void orders(String used, String row, TreeSet<String> rows) {
        if (used.length() == 4) {
            rows.add(row);
            return;
        }
        for (int d = 0; d < 4; d++) {
            if (used.indexOf('0' + d) < 0) {
                StringBuilder longer = new StringBuilder(row);
                for (int c = 0; c < coaches; c++) {
                    if (dest[c] == d) {
                        longer.append(d);
                    }
                }
                orders(used + d, longer.toString(), rows);
            }
        }
    }

    int misplaced(String row) {
        int n = 0;
        for (Rider r : riders) {
            n += row.charAt(r.coach) - '0' == r.dest ? 0 : 1;
        }
        return n;
    }

    /** {COACH, second} or null. */
    int[] family(int set) {
        int least = Integer.numberOfTrailingZeros(set);
        int[] best = null;
        for (int c = 0; c < coaches; c++) {
            if (right(riders.get(least), c)) {
                int worst = 0;
                for (int i = 0; i < riders.size(); i++) {
                    if ((set >> i & 1) != 0) {
                        worst = Math.max(worst, soonestTo(riders.get(i), riders.get(i).knows, c));
                    }
                }
                if (worst <= parting() && (best == null || worst < best[1])) {
                    best = new int[] {c, worst};
                }
            }
        }
        return best;
    }

    /** The WAY in which a RIDER who goes straight to a COACH is at each second, -1. */
    private int[] walk(Rider r, int goal) {
        int[] ways = new int[1000];
        java.util.Arrays.fill(ways, -1);
        int at = r.place();
        int s = start(r, r.knows);
        while (at != goal && s <= 999) {
            int to = at < goal ? at + 1 : at - 1;
            int end = insideEnd(r, at, to, s);
            if (end > 999) {
                break;
            }
            if (end < 0) {
                s++;
            } else {
                for (; s < end; s++) {
                    ways[s] = Math.min(at, to);
                }
                at = to;
            }
        }
        return ways;
    }

    int[] meet(Rider one, Rider other) {
        int[] ways = walk(one, other.place());
        int[] others = walk(other, one.place());
        for (int s = 0; s <= 999; s++) {
            if (ways[s] >= 0 && ways[s] == others[s]) {
                return new int[] {ways[s], s};
            }
        }
        return null;
    }

    /** From each COACH, all that can be, but nobody is elsewhere than SEEN. */
    int gotIn(int rider) {
        int bits = 0;
        for (int c = 0; c < coaches; c++) {
            if (canHaveGotIn(rider, c)) {
                bits |= 1 << c;
            }
        }
        return bits;
    }

    private boolean canHaveGotIn(int rider, int coach) {
        Rider r = riders.get(rider);
        boolean[][] stands = new boolean[1000][coaches];
        stands[0][coach] = true;
        for (int s = 0; s <= 999; s++) {
            boolean any = false;
            for (int c = 0; c < coaches; c++) {
                stands[s][c] &= isAsSeen(rider, c, s);
                any |= stands[s][c];
            }
            if (!any && isSeen(rider, s, s)) {
                return false;
            }
            for (int c = 0; c < coaches; c++) {
                if (stands[s][c]) {
                    for (int to = 0; to < coaches; to++) {
                        int[] ends = {insideEnd(r, c, to, s), outsideEnd(r, c, to, s), s + 1};
                        for (int i = 0; i < 3; i++) {
                            if (ends[i] > s && ends[i] <= 999 && !isSeen(rider, s + 1, ends[i] - 1)) {
                                stands[ends[i]][i == 2 ? c : to] = true;
                            }
                        }
                    }
                }
            }
        }
        return true;
    }

    private boolean isAsSeen(int rider, int coach, int s) {
        for (int[] sighting : sightings) {
            if (sighting[0] == rider && sighting[2] == s && sighting[1] != coach) {
                return false;
            }
        }
        return true;
    }

    private boolean isSeen(int rider, int from, int to) {
        for (int[] sighting : sightings) {
            if (sighting[0] == rider && from <= sighting[2] && sighting[2] <= to) {
                return true;
            }
        }
        return false;
    }

    int in(int coach) {
        int bits = 0;
        for (int i = 0; i < riders.size(); i++) {
            bits |= riders.get(i).coach == coach ? 1 << i : 0;
        }
        return bits;
    }

    int sit(int d) {
        int best = -2;
        for (int free = 1; free < 10; free++) {
            for (int c = coaches - 1; c >= 0; c--) {
                if (dest[c] == d && seats[c] - Integer.bitCount(in(c)) == free) {
                    best = c;
                }
            }
        }
        return best;
    }

    int[] journeys(int m) {
        long y = x;
        int lost = 0;
        int ahead = 0;
        for (int i = 0; i < m; i++) {
            for (Rider r : riders) {
                y = (y * 1103515245L + 12345L) & 0x7fffffffL;
                int knows = (int) (y / 65536 % (parting() + 1));
                if (lost(r, knows)) {
                    lost++;
                } else {
                    int soonest = soonest(r, knows);
                    ahead += soonest < parting() ? parting() - soonest : 0;
                }
            }
        }
        return new int[] {lost, ahead};
    }

    int haltNow() {
        for (int i = 0; i < halts.size(); i++) {
            if (halts.get(i)[0] <= second && second <= halts.get(i)[1]) {
                return i;
            }
        }
        return -1;
    }
}
