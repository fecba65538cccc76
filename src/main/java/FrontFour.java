import java.util.Arrays;

/** A train that is parted at a junction, its riders, and what can be asked of them. */
public final class FrontFour {
    public static final int NONE = -1;

    private static final int NOT_SO = -2;
    /** Above every second that can be, and small enough to be added to. */
    private static final int NEVER = 1000000;
    private static final int LAST_SECOND = 999;
    private static final int MOST_SECONDS_OF_A_CALL = 99;

    private static final int MOST_COACHES = 8;
    private static final int MOST_STOPS = 6;
    private static final int MOST_RIDERS = 6;
    private static final int MOST_RULES = 6;
    private static final int MOST_IMAGES = 4;
    private static final int MOST_SEEN = 12;
    private static final int MOST_UNDONE = 20;
    private static final int MOST_JOURNEYS = 20;
    private static final int DESTS = 4;
    private static final int TAPE_ROOM = 400;
    private static final int BYTES_OF_A_FEED = 20;

    /** The kinds of FAULT. */
    private static final int CANNOT_STAND = 0;
    private static final int BAD_NUMBER = 1;
    private static final int TOO_DEEP = 2;
    private static final int TOO_MANY_VALUES = 3;
    private static final int BAD_CLAUSE = 4;

    /** What a token of a text is. */
    private static final int TEXT_END = 0;
    private static final int NUMBER = 1;
    private static final int WORD = 2;
    private static final int SIGN = 3;

    /** The WORDS of both languages: the number of each is its place in this row. */
    private static final String WORDS = "train dest stop parting shut trolley seats rider told platform inside outside stay if and or not coach second left right near halt loads pace full moved";
    private static final int NO_WORD = -1;
    private static final int TRAIN = 0;
    private static final int DEST = 1;
    private static final int STOP = 2;
    private static final int PARTING = 3;
    private static final int SHUT = 4;
    private static final int TROLLEY = 5;
    private static final int SEATS = 6;
    private static final int RIDER = 7;
    private static final int TOLD = 8;
    private static final int PLATFORM = 9;
    private static final int INSIDE = 10;
    private static final int OUTSIDE = 11;
    private static final int STAY = 12;
    private static final int IF = 13;
    private static final int AND = 14;
    private static final int OR = 15;
    private static final int NOT = 16;
    private static final int COACH = 17;
    private static final int SECOND = 18;
    private static final int LEFT = 19;
    private static final int RIGHT = 20;
    private static final int NEAR = 21;
    private static final int HALT = 22;
    private static final int LOADS = 23;
    private static final int PACE = 24;
    private static final int FULL = 25;
    private static final int MOVED = 26;

    /** A sign that "=" follows without a blank is its own sign, by this much more. */
    private static final int WITH_EQUALS = 256;
    private static final int AT_MOST = WITH_EQUALS + '<';
    private static final int AT_LEAST = WITH_EQUALS + '>';

    /** A cell of a RULE's code: below the first base a NUMBER, else a sign or a WORD. */
    private static final int SIGN_BASE = 100000;
    private static final int WORD_BASE = 200000;

    private final Text text;
    private final World world;
    private final World draft;
    private final World[] images;
    private final boolean[] made;
    private final History history;
    private final Rule[] rules;
    private int ruleCount;
    private final LineReader lineReader;
    private final RuleReader ruleReader;
    private final Reckoner reckoner;
    private final Search search;

    public FrontFour() {
        text = new Text();
        world = new World();
        draft = new World();
        images = new World[MOST_IMAGES];
        for (int k = 0; k < MOST_IMAGES; k++) {
            images[k] = new World();
        }
        made = new boolean[MOST_IMAGES];
        history = new History();
        rules = new Rule[MOST_RULES];
        ruleCount = 0;
        lineReader = new LineReader(text, draft);
        ruleReader = new RuleReader(text);
        reckoner = new Reckoner(world);
        search = new Search(world);
    }

    public int feed(int a, int b, int c, int d, int e) {
        if (text.length + BYTES_OF_A_FEED > TAPE_ROOM) {
            return NONE;
        }
        text.append(a);
        text.append(b);
        text.append(c);
        text.append(d);
        text.append(e);
        return text.length;
    }

    public int end(int n) {
        if (n < 0 || n > text.length) {
            return NONE;
        }
        text.length = n;
        return n;
    }

    public int line() {
        boolean isGood = lineReader.read();
        text.length = 0;
        if (!isGood) {
            return NOT_SO - text.fault;
        }
        world.train.copyFrom(draft.train);
        world.moment.copyFrom(draft.moment);
        world.sightings.size = 0;
        history.size = 0;
        return world.train.riders;
    }

    public int rule() {
        if (ruleCount >= MOST_RULES) {
            return NONE;
        }
        boolean isGood = ruleReader.read();
        text.length = 0;
        if (!isGood) {
            return NOT_SO - text.fault;
        }
        rules[ruleCount] = new Rule(ruleReader);
        ruleCount++;
        return ruleCount - 1;
    }

    public int coach(int coach, int what) {
        if (!world.hasCoach(coach)) {
            return NONE;
        }
        switch (what) {
            case 0:
                return world.train.goesTo[coach];
            case 1:
                return world.train.seats[coach];
            case 2:
                return world.ridersIn(coach);
            default:
                return NONE;
        }
    }

    public int way(int way, int what) {
        if (!world.hasWay(way)) {
            return NOT_SO;
        }
        switch (what) {
            case 0:
                return world.isShut(way) ? 1 : 0;
            case 1:
                return world.train.trolley[way];
            case 2:
                return world.goerThrough(way);
            default:
                return NOT_SO;
        }
    }

    public int stop(int stop, int what) {
        if (stop < 0 || stop >= world.train.stops) {
            return NONE;
        }
        switch (what) {
            case 0:
                return world.train.haltBegin[stop];
            case 1:
                return world.train.haltEnd[stop];
            default:
                return NONE;
        }
    }

    public int rider(int rider, int what) {
        if (!world.hasRider(rider)) {
            return NONE;
        }
        switch (what) {
            case 0:
                return world.moment.coach[rider];
            case 1:
                return world.train.dest[rider];
            case 2:
                return world.train.pace[rider];
            case 3:
                return world.train.loads[rider];
            case 4:
                return world.train.knows[rider];
            case 5:
                return world.moment.to[rider];
            case 6:
                return world.moment.ends[rider];
            case 7:
                return world.moment.moved[rider];
            case 8:
                return world.isRight(rider, world.moment.coach[rider]) ? 1 : 0;
            default:
                return NONE;
        }
    }

    public int inside(int rider, int way) {
        if (!world.hasRider(rider) || (way != -1 && way != 1)) {
            return NONE;
        }
        int to = world.moment.coach[rider] + way;
        if (!world.mayGoInside(rider, to)) {
            return NONE;
        }
        history.keep(world.moment);
        return world.goInside(rider, to);
    }

    public int outside(int rider, int coach) {
        if (!world.hasRider(rider) || !world.mayGoOutside(rider, coach)) {
            return NONE;
        }
        history.keep(world.moment);
        return world.goOutside(rider, coach);
    }

    public int pass(int n) {
        if (!canGoBy(n)) {
            return NONE;
        }
        history.keep(world.moment);
        world.goBy(n);
        return world.moment.second;
    }

    public boolean shut(int way, boolean is) {
        if (!world.hasWay(way) || world.isShut(way) == is) {
            return false;
        }
        history.keep(world.moment);
        world.moment.shut ^= 1 << way;
        return true;
    }

    public int undo() {
        if (history.size <= 0) {
            return NONE;
        }
        history.restore(world.moment);
        return history.size;
    }

    public int run(int rule, int n) {
        if (rule < 0 || rule >= ruleCount || !canGoBy(n)) {
            return NONE;
        }
        history.size = 0;
        for (int i = 0; i < n; i++) {
            takeTurns(rules[rule]);
            world.goBy(1);
        }
        return world.moment.second;
    }

    public int soonest(int rider) {
        if (!world.hasRider(rider)) {
            return NONE;
        }
        int second = search.soonestOf(rider, world.train.knows[rider]);
        return second == NEVER ? NOT_SO : second;
    }

    public int row(int rider, int k, int what) {
        if (!world.hasRider(rider) || k < 0 || what < 0 || what > 2) {
            return NONE;
        }
        if (!search.findGoing(rider, k)) {
            return NOT_SO;
        }
        if (what == 0) {
            return search.goingIsOutside ? 1 : 0;
        }
        return what == 1 ? search.goingTo : search.goingBegin;
    }

    public int latest(int rider) {
        if (!world.hasRider(rider)) {
            return NONE;
        }
        int second = search.latestOf(rider);
        return second < 0 ? NOT_SO : second;
    }

    public int lost() {
        if (!world.hasLine()) {
            return NONE;
        }
        int bits = 0;
        for (int r = 0; r < world.train.riders; r++) {
            if (search.isLost(r, search.soonestOf(r, world.train.knows[r]))) {
                bits |= 1 << r;
            }
        }
        return bits;
    }

    public int voice(int coach) {
        if (!world.hasCoach(coach)) {
            return NONE;
        }
        int second = search.voiceIn(coach);
        return second == NEVER ? NOT_SO : second;
    }

    public int voices() {
        if (!world.hasLine()) {
            return NONE;
        }
        int bits = 0;
        for (int c = 0; c < world.train.coaches; c++) {
            if (search.voiceIn(c) != NEVER) {
                bits |= 1 << c;
            }
        }
        return bits;
    }

    public int put(int what) {
        if (!world.hasLine() || (what != NONE && !world.hasCoach(what))) {
            return NOT_SO;
        }
        int misplaced = search.findOrder();
        return what == NONE ? misplaced : search.bestOrder[what];
    }

    public int family(int riders, int what) {
        boolean isSet = riders > 0 && riders < 1 << world.train.riders;
        if (!isSet || what < 0 || what > 1) {
            return NONE;
        }
        int best = search.familyCoach(riders);
        if (best == NONE) {
            return NOT_SO;
        }
        return what == 0 ? best : search.worst[best];
    }

    public int meet(int one, int other, int what) {
        if (!world.hasRider(one) || !world.hasRider(other) || one == other || what < 0 || what > 1) {
            return NONE;
        }
        int met = search.meetingWay(one, other);
        if (met == NONE) {
            return NOT_SO;
        }
        return what == 0 ? met : search.meetingSecond(met);
    }

    public int seen(int rider, int coach, int second) {
        if (rider == NONE) {
            world.sightings.size = 0;
            return 0;
        }
        boolean isSecond = second >= 0 && second <= LAST_SECOND;
        if (!world.hasRider(rider) || !world.hasCoach(coach) || !isSecond) {
            return NOT_SO;
        }
        return world.sightings.add(rider, coach, second) ? world.sightings.size : NOT_SO;
    }

    public int gotIn(int rider) {
        if (!world.hasRider(rider)) {
            return NONE;
        }
        int bits = 0;
        for (int c = 0; c < world.train.coaches; c++) {
            if (search.canHaveGotIn(rider, c)) {
                bits |= 1 << c;
            }
        }
        return bits;
    }

    public int sit(int dest) {
        if (!world.hasLine() || dest < 0 || dest >= DESTS) {
            return NONE;
        }
        int best = NOT_SO;
        int most = 0;
        for (int c = 0; c < world.train.coaches; c++) {
            int free = world.train.seats[c] - Integer.bitCount(world.ridersIn(c));
            if (world.train.goesTo[c] == dest && free > most) {
                best = c;
                most = free;
            }
        }
        return best;
    }

    public int seed(int x) {
        if (x < 0) {
            return NONE;
        }
        int was = world.seed;
        world.seed = x;
        return was;
    }

    public int journeys(int m, int what) {
        if (!world.hasLine() || m < 1 || m > MOST_JOURNEYS || what < 0 || what > 1) {
            return NONE;
        }
        search.travel(m);
        return what == 0 ? search.journeysLost : search.journeysAhead;
    }

    public int count(int what) {
        switch (what) {
            case 0:
                return world.train.coaches;
            case 1:
                return world.train.stops;
            case 2:
                return world.train.riders;
            case 3:
                return ruleCount;
            case 4:
                return world.moment.second;
            case 5:
                return world.train.parting;
            case 6:
                return world.haltingStop();
            case 7:
                return world.goers();
            case 8:
                return world.ridersWhoAreRight();
            case 9:
                return world.sightings.size;
            case 10:
                return history.size;
            case 11:
                return world.seed;
            case 12:
                return text.length;
            default:
                return NONE;
        }
    }

    public int image(int k) {
        if (k < 0 || k >= MOST_IMAGES) {
            return NONE;
        }
        images[k].copyFrom(world);
        made[k] = true;
        return world.moment.second;
    }

    public int back(int k) {
        if (k < 0 || k >= MOST_IMAGES || !made[k]) {
            return NONE;
        }
        world.copyFrom(images[k]);
        history.size = 0;
        return world.moment.second;
    }

    private boolean canGoBy(int n) {
        boolean isCount = n >= 1 && n <= MOST_SECONDS_OF_A_CALL;
        return world.hasLine() && isCount && world.moment.second + n <= LAST_SECOND;
    }

    private void takeTurns(Rule rule) {
        if (rule == null) {
            return;
        }
        for (int r = 0; r < world.train.riders; r++) {
            boolean knows = world.moment.second >= world.train.knows[r];
            if (knows && !world.isGoing(r)) {
                takeTurn(rule, r);
            }
        }
    }

    private void takeTurn(Rule rule, int rider) {
        for (int i = 0; i < rule.kinds.length; i++) {
            if (holds(rule, i, rider) && isDone(rule, i, rider)) {
                return;
            }
        }
    }

    private boolean holds(Rule rule, int clause, int rider) {
        int from = rule.sumEnds[clause];
        int to = rule.testEnds[clause];
        return from >= to || reckoner.reckon(rule.code, from, to, rider) != 0;
    }

    private boolean isDone(Rule rule, int clause, int rider) {
        int kind = rule.kinds[clause];
        if (kind == STAY) {
            return true;
        }
        long told = reckoner.reckon(rule.code, rule.begin(clause), rule.sumEnds[clause], rider);
        int at = world.moment.coach[rider];
        if (told < 0 || told >= world.train.coaches || told == at) {
            return false;
        }
        int to = (int) told;
        if (kind == OUTSIDE) {
            boolean may = world.mayGoOutside(rider, to);
            if (may) {
                world.goOutside(rider, to);
            }
            return may;
        }
        int beside = to < at ? at - 1 : at + 1;
        boolean may = world.mayGoInside(rider, beside);
        if (may) {
            world.goInside(rider, beside);
        }
        return may;
    }

    /** The TAPE, and the tokens of it for those who read it. */
    private static final class Text {
        private static final int MOST_DIGITS = 5;
        private static final int TOO_LONG = -1;

        final byte[] tape = new byte[TAPE_ROOM];
        int length;
        /** 1 + 8 * place and kind of the first FAULT, 0 without one. */
        int fault;
        private final int[] kinds = new int[TAPE_ROOM + 1];
        private final int[] values = new int[TAPE_ROOM + 1];
        private final int[] places = new int[TAPE_ROOM + 1];
        private int tokens;
        private int at;

        void append(int number) {
            for (int shift = 24; shift >= 0; shift -= 8) {
                if (length < TAPE_ROOM) {
                    tape[length] = (byte) (number >> shift);
                    length++;
                }
            }
        }

        void open() {
            fault = 0;
            at = 0;
            tokens = 0;
            int next = 0;
            for (int turn = 0; turn < TAPE_ROOM && next < length; turn++) {
                if (tape[next] == ' ') {
                    next++;
                } else {
                    places[tokens] = next;
                    next = scan(next);
                    tokens++;
                }
            }
            kinds[tokens] = TEXT_END;
            values[tokens] = 0;
            places[tokens] = length;
        }

        private int scan(int from) {
            int sign = tape[from];
            if (isDigit(sign)) {
                return scanNumber(from);
            }
            return isSmall(sign) ? scanWord(from) : scanSign(from);
        }

        private int scanNumber(int from) {
            int value = 0;
            int to = from;
            while (to < length && isDigit(tape[to])) {
                if (to - from < MOST_DIGITS) {
                    value = value * 10 + tape[to] - '0';
                }
                to++;
            }
            kinds[tokens] = NUMBER;
            values[tokens] = to - from > MOST_DIGITS ? TOO_LONG : value;
            return to;
        }

        private int scanWord(int from) {
            int to = from;
            while (to < length && isSmall(tape[to])) {
                to++;
            }
            kinds[tokens] = WORD;
            values[tokens] = wordNumber(from, to);
            return to;
        }

        private int scanSign(int from) {
            int sign = tape[from];
            boolean takesEquals = sign == '<' || sign == '>';
            boolean hasEquals = takesEquals && from + 1 < length && tape[from + 1] == '=';
            kinds[tokens] = SIGN;
            values[tokens] = hasEquals ? WITH_EQUALS + sign : sign;
            return hasEquals ? from + 2 : from + 1;
        }

        private int wordNumber(int from, int to) {
            int number = 0;
            int begin = 0;
            for (int i = 0; i <= WORDS.length(); i++) {
                if (i == WORDS.length() || WORDS.charAt(i) == ' ') {
                    if (isSame(from, to, begin, i)) {
                        return number;
                    }
                    number++;
                    begin = i + 1;
                }
            }
            return NO_WORD;
        }

        private boolean isSame(int from, int to, int begin, int end) {
            if (to - from != end - begin) {
                return false;
            }
            for (int i = 0; i < to - from; i++) {
                if (tape[from + i] != WORDS.charAt(begin + i)) {
                    return false;
                }
            }
            return true;
        }

        private static boolean isDigit(int sign) {
            return sign >= '0' && sign <= '9';
        }

        private static boolean isSmall(int sign) {
            return sign >= 'a' && sign <= 'z';
        }

        void step() {
            if (at < tokens) {
                at++;
            }
        }

        boolean isAtEnd() {
            return kinds[at] == TEXT_END;
        }

        boolean isNumber() {
            return kinds[at] == NUMBER;
        }

        /** The NUMBER here, below 0 if it has too many digits. */
        int numberHere() {
            return values[at];
        }

        int wordHere() {
            return kinds[at] == WORD ? values[at] : NO_WORD;
        }

        int signHere() {
            return kinds[at] == SIGN ? values[at] : 0;
        }

        boolean takesSign(int sign) {
            boolean isHere = kinds[at] == SIGN && values[at] == sign;
            if (isHere) {
                step();
            }
            return isHere;
        }

        /** Only the first FAULT counts; the reader finds nothing but the end behind it. */
        void blame(int kind) {
            if (fault == 0) {
                fault = 1 + 8 * places[at] + kind;
            }
            at = tokens;
        }

        int takeNumber(int least, int most) {
            if (kinds[at] != NUMBER) {
                blame(CANNOT_STAND);
                return least;
            }
            int value = values[at];
            if (value < least || value > most) {
                blame(BAD_NUMBER);
                return least;
            }
            step();
            return value;
        }
    }

    /** Reads a LINE from a text into a world that nobody else looks at. */
    private static final class LineReader {
        private static final int MOST_CLAUSES = 40;
        private static final int ONCE_ONLY = 1 << TRAIN | 1 << DEST | 1 << PARTING | 1 << PLATFORM;

        private final Text text;
        private final World draft;
        private int told;

        LineReader(Text text, World draft) {
            this.text = text;
            this.draft = draft;
        }

        boolean read() {
            draft.clear();
            told = 0;
            text.open();
            readClause(0);
            for (int n = 1; n <= MOST_CLAUSES && text.takesSign(';'); n++) {
                readClause(n);
            }
            if (!text.isAtEnd() || draft.train.stops == 0) {
                text.blame(CANNOT_STAND);
            }
            if (text.fault != 0) {
                return false;
            }
            finish();
            return true;
        }

        private void readClause(int n) {
            int word = text.wordHere();
            if (word < TRAIN || word > PLATFORM) {
                text.blame(CANNOT_STAND);
                return;
            }
            if (n >= MOST_CLAUSES || !canStand(n, word)) {
                text.blame(BAD_CLAUSE);
                return;
            }
            told |= 1 << word;
            text.step();
            if (word == STOP) {
                readStop();
            } else if (word == RIDER) {
                readRider();
            } else {
                readOther(word);
            }
        }

        private boolean canStand(int n, int word) {
            if ((n == 0) != (word == TRAIN)) {
                return false;
            }
            if ((told & ONCE_ONLY & 1 << word) != 0) {
                return false;
            }
            if (word == STOP) {
                return draft.train.stops < MOST_STOPS;
            }
            return word != RIDER || draft.train.riders < MOST_RIDERS;
        }

        private void readStop() {
            Train train = draft.train;
            int ride = text.takeNumber(1, 99);
            int halt = text.takeNumber(1, 60);
            int stop = train.stops;
            int before = stop == 0 ? 0 : train.haltEnd[stop - 1];
            train.haltBegin[stop] = before + ride;
            train.haltEnd[stop] = before + ride + halt;
            train.stops++;
        }

        private void readRider() {
            Train train = draft.train;
            int rider = train.riders;
            draft.moment.coach[rider] = text.takeNumber(0, train.coaches - 1);
            train.dest[rider] = text.takeNumber(0, DESTS - 1);
            train.pace[rider] = text.takeNumber(1, 20);
            train.loads[rider] = text.takeNumber(0, 3);
            train.riders++;
        }

        private void readOther(int word) {
            Train train = draft.train;
            switch (word) {
                case TRAIN:
                    train.coaches = text.takeNumber(2, MOST_COACHES);
                    break;
                case DEST:
                    for (int c = 0; c < train.coaches; c++) {
                        train.goesTo[c] = text.takeNumber(0, DESTS - 1);
                    }
                    break;
                case PARTING:
                    train.partingStop = text.takeNumber(0, train.stops - 1);
                    break;
                case SHUT:
                    draft.moment.shut |= 1 << text.takeNumber(0, train.coaches - 2);
                    break;
                case TROLLEY:
                    int way = text.takeNumber(0, train.coaches - 2);
                    train.trolley[way] = text.takeNumber(1, LAST_SECOND);
                    break;
                case SEATS:
                    int coach = text.takeNumber(0, train.coaches - 1);
                    train.seats[coach] = text.takeNumber(0, 9);
                    break;
                case TOLD:
                    int rider = text.takeNumber(0, train.riders - 1);
                    train.knows[rider] = text.takeNumber(0, LAST_SECOND);
                    break;
                default:
                    train.platform = text.takeNumber(1, 20);
                    break;
            }
        }

        /** What hangs on CLAUSES that may stand anywhere is known only now. */
        private void finish() {
            Train train = draft.train;
            if ((told & 1 << PARTING) == 0) {
                train.partingStop = train.stops - 1;
            }
            train.parting = train.haltEnd[train.partingStop];
            for (int r = 0; r < train.riders; r++) {
                int times = train.loads[r] < 2 ? 1 : 2 * train.loads[r] - 1;
                train.insideSeconds[r] = times * train.pace[r];
                train.platformSeconds[r] = times * train.platform;
            }
        }
    }

    /** Reads a RULE from a text as a row of cells in which operators stand behind what they take. */
    private static final class RuleReader {
        private static final int MOST_CLAUSES = 12;
        private static final int MOST_COUNTED = 60;
        private static final int DEEPEST = 10;

        final int[] code = new int[TAPE_ROOM];
        int size;
        final int[] kinds = new int[MOST_CLAUSES];
        final int[] sumEnds = new int[MOST_CLAUSES];
        final int[] testEnds = new int[MOST_CLAUSES];
        int clauses;
        private final Text text;
        private int counted;

        RuleReader(Text text) {
            this.text = text;
        }

        boolean read() {
            size = 0;
            clauses = 0;
            counted = 0;
            text.open();
            readClause();
            for (int n = 1; n <= MOST_CLAUSES && text.takesSign(';'); n++) {
                readClause();
            }
            if (!text.isAtEnd()) {
                text.blame(CANNOT_STAND);
            }
            return text.fault == 0;
        }

        private void readClause() {
            int word = text.wordHere();
            if (word < INSIDE || word > STAY) {
                text.blame(CANNOT_STAND);
                return;
            }
            if (clauses >= MOST_CLAUSES) {
                text.blame(BAD_CLAUSE);
                return;
            }
            text.step();
            kinds[clauses] = word;
            if (word != STAY) {
                readSum();
            }
            sumEnds[clauses] = size;
            if (text.wordHere() == IF) {
                text.step();
                readTest(0);
            }
            testEnds[clauses] = size;
            clauses++;
        }

        /** A PART that an "or" follows waits till the next PART is whole. */
        private void readTest(int depth) {
            readFact(depth);
            boolean partWaits = false;
            for (int n = 0; n < TAPE_ROOM; n++) {
                int word = text.wordHere();
                if (word != AND && word != OR) {
                    break;
                }
                text.step();
                if (word == OR && partWaits) {
                    emit(SIGN_BASE + OR);
                }
                readFact(depth);
                if (word == AND) {
                    emit(SIGN_BASE + AND);
                } else {
                    partWaits = true;
                }
            }
            if (partWaits) {
                emit(SIGN_BASE + OR);
            }
        }

        private void readFact(int depth) {
            boolean isNot = text.wordHere() == NOT;
            if (!isNot && text.signHere() != '[') {
                readSum();
                int sign = takeComparison();
                readSum();
                emit(SIGN_BASE + sign);
                return;
            }
            if (depth >= DEEPEST) {
                text.blame(TOO_DEEP);
                return;
            }
            text.step();
            if (isNot) {
                readFact(depth + 1);
                emit(SIGN_BASE + NOT);
                return;
            }
            readTest(depth + 1);
            if (!text.takesSign(']')) {
                text.blame(CANNOT_STAND);
            }
        }

        private int takeComparison() {
            int sign = text.signHere();
            if (sign != '<' && sign != AT_MOST && sign != '=' && sign != AT_LEAST && sign != '>') {
                text.blame(CANNOT_STAND);
                return 0;
            }
            if (counted >= MOST_COUNTED) {
                text.blame(TOO_MANY_VALUES);
                return 0;
            }
            counted++;
            text.step();
            return sign;
        }

        /** A "+" or "-" waits till the TERM behind it is whole. */
        private void readSum() {
            readValue();
            int waiting = 0;
            for (int n = 0; n < TAPE_ROOM; n++) {
                int sign = text.signHere();
                boolean adds = sign == '+' || sign == '-';
                if (!adds && sign != '*' && sign != '/' && sign != '%') {
                    break;
                }
                text.step();
                if (adds && waiting != 0) {
                    emit(SIGN_BASE + waiting);
                }
                readValue();
                if (adds) {
                    waiting = sign;
                } else {
                    emit(SIGN_BASE + sign);
                }
            }
            if (waiting != 0) {
                emit(SIGN_BASE + waiting);
            }
        }

        private void readValue() {
            int word = text.wordHere();
            boolean isValueWord = word >= COACH || word == DEST || word == SEATS || word == RIDER;
            if (!text.isNumber() && !isValueWord) {
                text.blame(CANNOT_STAND);
                return;
            }
            if (text.isNumber() && text.numberHere() < 0) {
                text.blame(BAD_NUMBER);
                return;
            }
            if (counted >= MOST_COUNTED) {
                text.blame(TOO_MANY_VALUES);
                return;
            }
            counted++;
            emit(text.isNumber() ? text.numberHere() : WORD_BASE + word);
            text.step();
        }

        private void emit(int cell) {
            if (size < code.length) {
                code[size] = cell;
                size++;
            }
        }
    }

    /** A RULE: of each CLAUSE its kind and where the code of its SUM and of its TEST end. */
    private static final class Rule {
        final int[] code;
        final int[] kinds;
        final int[] sumEnds;
        final int[] testEnds;

        Rule(RuleReader reader) {
            code = Arrays.copyOf(reader.code, reader.size);
            kinds = Arrays.copyOf(reader.kinds, reader.clauses);
            sumEnds = Arrays.copyOf(reader.sumEnds, reader.clauses);
            testEnds = Arrays.copyOf(reader.testEnds, reader.clauses);
        }

        int begin(int clause) {
            return clause <= 0 ? 0 : testEnds[clause - 1];
        }
    }

    /** Works out the code of a SUM or a TEST for a rider. */
    private static final class Reckoner {
        private static final int ROOM = 128;

        private final World world;
        private final long[] stack = new long[ROOM];
        private int height;

        Reckoner(World world) {
            this.world = world;
        }

        long reckon(int[] code, int from, int to, int rider) {
            height = 0;
            for (int i = from; i < to && i < code.length; i++) {
                int cell = code[i];
                if (cell < SIGN_BASE) {
                    push(cell);
                } else if (cell >= WORD_BASE) {
                    push(world.wordOf(rider, cell - WORD_BASE));
                } else if (cell == SIGN_BASE + NOT) {
                    push(pop() == 0 ? 1 : 0);
                } else {
                    long second = pop();
                    long first = pop();
                    push(combined(cell - SIGN_BASE, first, second));
                }
            }
            return pop();
        }

        private void push(long value) {
            if (height < ROOM) {
                stack[height] = value;
                height++;
            }
        }

        private long pop() {
            if (height <= 0) {
                return 0;
            }
            height--;
            return stack[height];
        }

        private static long combined(int sign, long first, long second) {
            switch (sign) {
                case '+':
                    return first + second;
                case '-':
                    return first - second;
                case '*':
                    return first * second;
                case '/':
                    return second == 0 ? 0 : first / second;
                case '%':
                    return second == 0 ? 0 : first % second;
                default:
                    return isTrue(sign, first, second) ? 1 : 0;
            }
        }

        private static boolean isTrue(int sign, long first, long second) {
            switch (sign) {
                case AND:
                    return first != 0 && second != 0;
                case OR:
                    return first != 0 || second != 0;
                case '<':
                    return first < second;
                case AT_MOST:
                    return first <= second;
                case '=':
                    return first == second;
                case AT_LEAST:
                    return first >= second;
                default:
                    return first > second;
            }
        }
    }

    /** What a LINE tells and nothing that is done changes. */
    private static final class Train {
        int coaches;
        int stops;
        int riders;
        int partingStop;
        /** The second of the PARTING, NONE without a LINE. */
        int parting;
        int platform;
        final int[] goesTo = new int[MOST_COACHES];
        final int[] seats = new int[MOST_COACHES];
        final int[] trolley = new int[MOST_COACHES];
        final int[] haltBegin = new int[MOST_STOPS];
        final int[] haltEnd = new int[MOST_STOPS];
        final int[] dest = new int[MOST_RIDERS];
        final int[] pace = new int[MOST_RIDERS];
        final int[] loads = new int[MOST_RIDERS];
        final int[] knows = new int[MOST_RIDERS];
        /** Of a GOING with the loads, INSIDE and for each COACH along the platform. */
        final int[] insideSeconds = new int[MOST_RIDERS];
        final int[] platformSeconds = new int[MOST_RIDERS];

        void clear() {
            coaches = 0;
            stops = 0;
            riders = 0;
            partingStop = 0;
            parting = NONE;
            platform = 4;
            Arrays.fill(goesTo, 0);
            Arrays.fill(seats, 4);
            Arrays.fill(trolley, 0);
            Arrays.fill(knows, 0);
        }

        void copyFrom(Train other) {
            coaches = other.coaches;
            stops = other.stops;
            riders = other.riders;
            partingStop = other.partingStop;
            parting = other.parting;
            platform = other.platform;
            System.arraycopy(other.goesTo, 0, goesTo, 0, MOST_COACHES);
            System.arraycopy(other.seats, 0, seats, 0, MOST_COACHES);
            System.arraycopy(other.trolley, 0, trolley, 0, MOST_COACHES);
            System.arraycopy(other.haltBegin, 0, haltBegin, 0, MOST_STOPS);
            System.arraycopy(other.haltEnd, 0, haltEnd, 0, MOST_STOPS);
            System.arraycopy(other.dest, 0, dest, 0, MOST_RIDERS);
            System.arraycopy(other.pace, 0, pace, 0, MOST_RIDERS);
            System.arraycopy(other.loads, 0, loads, 0, MOST_RIDERS);
            System.arraycopy(other.knows, 0, knows, 0, MOST_RIDERS);
            System.arraycopy(other.insideSeconds, 0, insideSeconds, 0, MOST_RIDERS);
            System.arraycopy(other.platformSeconds, 0, platformSeconds, 0, MOST_RIDERS);
        }
    }

    /** All that is done BY HAND or BY A RULE changes, and undoing brings back. */
    private static final class Moment {
        int second;
        /** WAYS that are SHUT, as bits. */
        int shut;
        final int[] coach = new int[MOST_RIDERS];
        final int[] to = new int[MOST_RIDERS];
        final int[] ends = new int[MOST_RIDERS];
        /** The WAY a rider goes through, NONE on a platform. */
        final int[] through = new int[MOST_RIDERS];
        final int[] moved = new int[MOST_RIDERS];

        void clear() {
            second = 0;
            shut = 0;
            Arrays.fill(coach, 0);
            Arrays.fill(to, NONE);
            Arrays.fill(ends, NONE);
            Arrays.fill(through, NONE);
            Arrays.fill(moved, 0);
        }

        void copyFrom(Moment other) {
            second = other.second;
            shut = other.shut;
            System.arraycopy(other.coach, 0, coach, 0, MOST_RIDERS);
            System.arraycopy(other.to, 0, to, 0, MOST_RIDERS);
            System.arraycopy(other.ends, 0, ends, 0, MOST_RIDERS);
            System.arraycopy(other.through, 0, through, 0, MOST_RIDERS);
            System.arraycopy(other.moved, 0, moved, 0, MOST_RIDERS);
        }
    }

    /** The SEEN, by their seconds. */
    private static final class Sightings {
        int size;
        final int[] riders = new int[MOST_SEEN];
        final int[] coaches = new int[MOST_SEEN];
        final int[] seconds = new int[MOST_SEEN];

        boolean add(int rider, int coach, int second) {
            if (size >= MOST_SEEN) {
                return false;
            }
            int place = size;
            while (place > 0 && seconds[place - 1] > second) {
                riders[place] = riders[place - 1];
                coaches[place] = coaches[place - 1];
                seconds[place] = seconds[place - 1];
                place--;
            }
            riders[place] = rider;
            coaches[place] = coach;
            seconds[place] = second;
            size++;
            return true;
        }

        void copyFrom(Sightings other) {
            size = other.size;
            System.arraycopy(other.riders, 0, riders, 0, MOST_SEEN);
            System.arraycopy(other.coaches, 0, coaches, 0, MOST_SEEN);
            System.arraycopy(other.seconds, 0, seconds, 0, MOST_SEEN);
        }
    }

    /** The train as it is, and what goes on in it. */
    private static final class World {
        private static final int NO_COACH_NEAR = 99;

        final Train train = new Train();
        final Moment moment = new Moment();
        final Sightings sightings = new Sightings();
        /** The x of the DRAWS. */
        int seed;

        World() {
            clear();
        }

        void clear() {
            train.clear();
            moment.clear();
        }

        void copyFrom(World other) {
            train.copyFrom(other.train);
            moment.copyFrom(other.moment);
            sightings.copyFrom(other.sightings);
            seed = other.seed;
        }

        boolean hasLine() {
            return train.coaches > 0;
        }

        boolean hasCoach(int coach) {
            return coach >= 0 && coach < train.coaches;
        }

        boolean hasWay(int way) {
            return way >= 0 && way < train.coaches - 1;
        }

        boolean hasRider(int rider) {
            return rider >= 0 && rider < train.riders;
        }

        int haltingStop() {
            for (int s = 0; s < train.stops; s++) {
                if (train.haltBegin[s] <= moment.second && moment.second <= train.haltEnd[s]) {
                    return s;
                }
            }
            return NONE;
        }

        boolean isShut(int way) {
            return (moment.shut & 1 << way) != 0;
        }

        boolean isRight(int rider, int coach) {
            return train.goesTo[coach] == train.dest[rider];
        }

        boolean isGoing(int rider) {
            return moment.to[rider] != NONE;
        }

        /** The COACH where a rider is, or to which they go. */
        int placeOf(int rider) {
            return isGoing(rider) ? moment.to[rider] : moment.coach[rider];
        }

        int ridersIn(int coach) {
            int bits = 0;
            for (int r = 0; r < train.riders; r++) {
                if (moment.coach[r] == coach) {
                    bits |= 1 << r;
                }
            }
            return bits;
        }

        int goerThrough(int way) {
            for (int r = 0; r < train.riders; r++) {
                if (moment.through[r] == way) {
                    return r;
                }
            }
            return NONE;
        }

        int goers() {
            int goers = 0;
            for (int r = 0; r < train.riders; r++) {
                if (isGoing(r)) {
                    goers++;
                }
            }
            return goers;
        }

        int ridersWhoAreRight() {
            int riders = 0;
            for (int r = 0; r < train.riders; r++) {
                if (isRight(r, moment.coach[r])) {
                    riders++;
                }
            }
            return riders;
        }

        /** The first second, not ahead of one, at which a rider can begin to go INSIDE; NEVER. */
        int insideBegin(int rider, int from, int to, int at) {
            int way = Math.min(from, to);
            if (isShut(way)) {
                return NEVER;
            }
            int begin = Math.max(at, train.trolley[way]);
            boolean isParted = train.goesTo[from] != train.goesTo[to];
            if (isParted && begin + train.insideSeconds[rider] > train.parting) {
                return NEVER;
            }
            return begin;
        }

        /** The last second at which a rider can begin to go INSIDE and be there by another, PARTING at most; NONE. */
        int insideLatest(int rider, int from, int to, int by) {
            int way = Math.min(from, to);
            int begin = Math.min(by, train.parting) - train.insideSeconds[rider];
            return isShut(way) || begin < train.trolley[way] ? NONE : begin;
        }

        int outsideSeconds(int rider, int from, int to) {
            return Math.abs(to - from) * train.platformSeconds[rider];
        }

        /** As insideBegin, for so many seconds along a platform: of STOPS up to that of the PARTING. */
        int outsideBegin(int seconds, int at) {
            for (int s = 0; s <= train.partingStop; s++) {
                int begin = Math.max(at, train.haltBegin[s]);
                if (begin + seconds <= train.haltEnd[s]) {
                    return begin;
                }
            }
            return NEVER;
        }

        int outsideLatest(int seconds, int by) {
            for (int s = train.partingStop; s >= 0; s--) {
                int begin = Math.min(by, train.haltEnd[s]) - seconds;
                if (begin >= train.haltBegin[s]) {
                    return begin;
                }
            }
            return NONE;
        }

        boolean mayGoInside(int rider, int to) {
            if (isGoing(rider) || !hasCoach(to)) {
                return false;
            }
            int from = moment.coach[rider];
            boolean isFree = goerThrough(Math.min(from, to)) == NONE;
            return isFree && insideBegin(rider, from, to, moment.second) == moment.second;
        }

        int goInside(int rider, int to) {
            moment.through[rider] = Math.min(moment.coach[rider], to);
            return go(rider, to, train.insideSeconds[rider]);
        }

        boolean mayGoOutside(int rider, int to) {
            int from = moment.coach[rider];
            if (isGoing(rider) || !hasCoach(to) || to == from) {
                return false;
            }
            return outsideBegin(outsideSeconds(rider, from, to), moment.second) == moment.second;
        }

        int goOutside(int rider, int to) {
            return go(rider, to, outsideSeconds(rider, moment.coach[rider], to));
        }

        private int go(int rider, int to, int seconds) {
            moment.to[rider] = to;
            moment.ends[rider] = moment.second + seconds;
            moment.moved[rider]++;
            return moment.ends[rider];
        }

        void goBy(int seconds) {
            moment.second += seconds;
            for (int r = 0; r < train.riders; r++) {
                if (isGoing(r) && moment.ends[r] <= moment.second) {
                    moment.coach[r] = moment.to[r];
                    moment.to[r] = NONE;
                    moment.ends[r] = NONE;
                    moment.through[r] = NONE;
                }
            }
        }

        int wordOf(int rider, int word) {
            int coach = moment.coach[rider];
            switch (word) {
                case RIDER:
                    return rider;
                case DEST:
                    return train.dest[rider];
                case COACH:
                    return coach;
                case SECOND:
                    return moment.second;
                case LEFT:
                    return Math.max(0, train.parting - moment.second);
                case RIGHT:
                    return isRight(rider, coach) ? 1 : 0;
                case NEAR:
                    return nearestRight(rider);
                case HALT:
                    int stop = haltingStop();
                    return stop == NONE ? 0 : train.haltEnd[stop] - moment.second;
                case LOADS:
                    return train.loads[rider];
                case PACE:
                    return train.pace[rider];
                case FULL:
                    return Integer.bitCount(ridersIn(coach));
                case SEATS:
                    return train.seats[coach];
                default:
                    return moment.moved[rider];
            }
        }

        private int nearestRight(int rider) {
            int nearest = NO_COACH_NEAR;
            int least = NEVER;
            for (int c = 0; c < train.coaches; c++) {
                int distance = Math.abs(c - moment.coach[rider]);
                if (train.goesTo[c] == train.dest[rider] && distance < least) {
                    nearest = c;
                    least = distance;
                }
            }
            return nearest;
        }
    }

    /** The last moments, in a ring. */
    private static final class History {
        private final Moment[] moments = new Moment[MOST_UNDONE];
        private int next;
        int size;

        History() {
            for (int i = 0; i < MOST_UNDONE; i++) {
                moments[i] = new Moment();
            }
        }

        void keep(Moment moment) {
            moments[next].copyFrom(moment);
            next = (next + 1) % MOST_UNDONE;
            size = Math.min(size + 1, MOST_UNDONE);
        }

        void restore(Moment moment) {
            next = (next + MOST_UNDONE - 1) % MOST_UNDONE;
            size--;
            moment.copyFrom(moments[next]);
        }
    }

    /** Answers what is asked of riders alone; changes nothing but its own scratch. */
    private static final class Search {
        private static final int ORDERS = 256;

        private final World world;
        /** The first second at which each COACH is reached, NEVER. */
        private final int[] arrival = new int[MOST_COACHES];
        /** The last second from which a right COACH can be reached from each, NONE. */
        private final int[] until = new int[MOST_COACHES];
        final int[] worst = new int[MOST_COACHES];
        private final int[] oneBegins = new int[MOST_COACHES];
        private final int[] otherBegins = new int[MOST_COACHES];
        final int[] bestOrder = new int[MOST_COACHES];
        private final int[] order = new int[MOST_COACHES];
        boolean goingIsOutside;
        int goingTo;
        int goingBegin;
        private int goingEnd;
        int journeysLost;
        int journeysAhead;

        Search(World world) {
            this.world = world;
        }

        /** The second from which a rider who knows from a second on may go. */
        private int startOf(int rider, int knows) {
            int start = Math.max(world.moment.second, knows);
            return Math.max(start, world.moment.ends[rider]);
        }

        private void spread(int rider, int from, int at) {
            Arrays.fill(arrival, NEVER);
            if (at > LAST_SECOND) {
                return;
            }
            arrival[from] = at;
            boolean changed = true;
            for (int round = 0; round < MOST_COACHES && changed; round++) {
                changed = false;
                for (int c = 0; c < world.train.coaches; c++) {
                    if (arrival[c] != NEVER && spreadFrom(rider, c)) {
                        changed = true;
                    }
                }
            }
        }

        private boolean spreadFrom(int rider, int from) {
            boolean changed = false;
            for (int to = 0; to < world.train.coaches; to++) {
                if (to != from) {
                    int end = firstEnd(rider, from, to, arrival[from]);
                    if (end <= LAST_SECOND && end < arrival[to]) {
                        arrival[to] = end;
                        changed = true;
                    }
                }
            }
            return changed;
        }

        private int firstEnd(int rider, int from, int to, int at) {
            int seconds = world.outsideSeconds(rider, from, to);
            int end = world.outsideBegin(seconds, at) + seconds;
            if (Math.abs(from - to) == 1) {
                int begin = world.insideBegin(rider, from, to, at);
                end = Math.min(end, begin + world.train.insideSeconds[rider]);
            }
            return end;
        }

        private void spreadBack(int rider, int by) {
            for (int c = 0; c < world.train.coaches; c++) {
                until[c] = world.isRight(rider, c) ? by : NONE;
            }
            boolean changed = true;
            for (int round = 0; round < MOST_COACHES && changed; round++) {
                changed = false;
                for (int c = 0; c < world.train.coaches; c++) {
                    if (until[c] != NONE && spreadBackFrom(rider, c)) {
                        changed = true;
                    }
                }
            }
        }

        private boolean spreadBackFrom(int rider, int to) {
            boolean changed = false;
            for (int from = 0; from < world.train.coaches; from++) {
                if (from != to) {
                    int begin = lastBegin(rider, from, to, until[to]);
                    if (begin > until[from]) {
                        until[from] = begin;
                        changed = true;
                    }
                }
            }
            return changed;
        }

        private int lastBegin(int rider, int from, int to, int by) {
            int begin = world.outsideLatest(world.outsideSeconds(rider, from, to), by);
            if (Math.abs(from - to) == 1) {
                begin = Math.max(begin, world.insideLatest(rider, from, to, by));
            }
            return begin;
        }

        int soonestOf(int rider, int knows) {
            spread(rider, world.placeOf(rider), startOf(rider, knows));
            int soonest = NEVER;
            for (int c = 0; c < world.train.coaches; c++) {
                if (world.isRight(rider, c)) {
                    soonest = Math.min(soonest, arrival[c]);
                }
            }
            return soonest;
        }

        int latestOf(int rider) {
            spreadBack(rider, world.train.parting);
            return until[world.placeOf(rider)];
        }

        boolean isLost(int rider, int soonest) {
            return !world.isRight(rider, world.placeOf(rider)) && soonest > world.train.parting;
        }

        /** Walks along the ROW of a rider to its k-th GOING, which is then the one found. */
        boolean findGoing(int rider, int k) {
            int soonest = soonestOf(rider, world.train.knows[rider]);
            if (soonest == NEVER) {
                return false;
            }
            spreadBack(rider, soonest);
            int at = world.placeOf(rider);
            int second = startOf(rider, world.train.knows[rider]);
            for (int i = 0; i <= LAST_SECOND; i++) {
                if (world.isRight(rider, at) || !findFirst(rider, at, second)) {
                    return false;
                }
                if (i == k) {
                    return true;
                }
                at = goingTo;
                second = goingEnd;
            }
            return false;
        }

        private boolean findFirst(int rider, int from, int at) {
            if (isInTimeInside(rider, from, from - 1, at) || isInTimeInside(rider, from, from + 1, at)) {
                return true;
            }
            for (int to = 0; to < world.train.coaches; to++) {
                if (to != from) {
                    int seconds = world.outsideSeconds(rider, from, to);
                    int begin = world.outsideBegin(seconds, at);
                    int end = begin + seconds;
                    if (end <= until[to]) {
                        takeAsFound(true, to, begin, end);
                        return true;
                    }
                }
            }
            return false;
        }

        private boolean isInTimeInside(int rider, int from, int to, int at) {
            if (!world.hasCoach(to)) {
                return false;
            }
            int begin = world.insideBegin(rider, from, to, at);
            int end = begin + world.train.insideSeconds[rider];
            if (end > until[to]) {
                return false;
            }
            takeAsFound(false, to, begin, end);
            return true;
        }

        private void takeAsFound(boolean isOutside, int to, int begin, int end) {
            goingIsOutside = isOutside;
            goingTo = to;
            goingBegin = begin;
            goingEnd = end;
        }

        int voiceIn(int coach) {
            int least = NEVER;
            for (int r = 0; r < world.train.riders; r++) {
                if (world.placeOf(r) == coach && !world.isRight(r, coach)) {
                    int latest = latestOf(r);
                    if (latest != NONE) {
                        least = Math.min(least, latest);
                    }
                }
            }
            return least;
        }

        /** Orders of the blocks are told by four digits of base 4, unlike ones, the least first. */
        int findOrder() {
            int fewest = NEVER;
            for (int digits = 0; digits < ORDERS; digits++) {
                if (hasUnlikeDigits(digits)) {
                    lineUp(digits);
                    int misplaced = misplacedRiders();
                    if (misplaced < fewest) {
                        fewest = misplaced;
                        System.arraycopy(order, 0, bestOrder, 0, MOST_COACHES);
                    }
                }
            }
            return fewest;
        }

        private static boolean hasUnlikeDigits(int digits) {
            int bits = 0;
            for (int shift = 0; shift < 8; shift += 2) {
                bits |= 1 << (digits >> shift & 3);
            }
            return bits == 15;
        }

        private void lineUp(int digits) {
            int place = 0;
            for (int shift = 6; shift >= 0; shift -= 2) {
                int dest = digits >> shift & 3;
                for (int c = 0; c < world.train.coaches; c++) {
                    if (world.train.goesTo[c] == dest && place < MOST_COACHES) {
                        order[place] = dest;
                        place++;
                    }
                }
            }
        }

        private int misplacedRiders() {
            int riders = 0;
            for (int r = 0; r < world.train.riders; r++) {
                if (order[world.moment.coach[r]] != world.train.dest[r]) {
                    riders++;
                }
            }
            return riders;
        }

        /** The COACH for a set of riders, NONE; in worst then stands when the last is in each. */
        int familyCoach(int riders) {
            Arrays.fill(worst, 0);
            int least = NONE;
            for (int r = 0; r < world.train.riders; r++) {
                if ((riders & 1 << r) != 0) {
                    least = least == NONE ? r : least;
                    spread(r, world.placeOf(r), startOf(r, world.train.knows[r]));
                    for (int c = 0; c < world.train.coaches; c++) {
                        worst[c] = Math.max(worst[c], arrival[c]);
                    }
                }
            }
            return least == NONE ? NONE : bestFor(least);
        }

        private int bestFor(int rider) {
            int best = NONE;
            int soonest = world.train.parting + 1;
            for (int c = 0; c < world.train.coaches; c++) {
                if (world.isRight(rider, c) && worst[c] < soonest) {
                    best = c;
                    soonest = worst[c];
                }
            }
            return best;
        }

        /** The WAY in which two riders are at one time, NONE. */
        int meetingWay(int one, int other) {
            walk(one, world.placeOf(other), oneBegins);
            walk(other, world.placeOf(one), otherBegins);
            int oneSeconds = world.train.insideSeconds[one];
            int otherSeconds = world.train.insideSeconds[other];
            for (int way = 0; way < world.train.coaches - 1; way++) {
                boolean bothGo = oneBegins[way] != NEVER && otherBegins[way] != NEVER;
                int end = Math.min(oneBegins[way] + oneSeconds, otherBegins[way] + otherSeconds);
                if (bothGo && meetingSecond(way) < end) {
                    return way;
                }
            }
            return NONE;
        }

        int meetingSecond(int way) {
            return Math.max(oneBegins[way], otherBegins[way]);
        }

        /** Fills in when a rider who goes straight INSIDE begins to go through each WAY, NEVER. */
        private void walk(int rider, int goal, int[] begins) {
            Arrays.fill(begins, NEVER);
            int at = world.placeOf(rider);
            int second = startOf(rider, world.train.knows[rider]);
            int step = goal < at ? -1 : 1;
            for (int i = 0; i < MOST_COACHES && at != goal; i++) {
                int begin = world.insideBegin(rider, at, at + step, second);
                second = begin + world.train.insideSeconds[rider];
                if (second > LAST_SECOND) {
                    return;
                }
                begins[Math.min(at, at + step)] = begin;
                at += step;
            }
        }

        boolean canHaveGotIn(int rider, int coach) {
            Sightings sightings = world.sightings;
            int at = coach;
            int second = 0;
            for (int i = 0; i < sightings.size; i++) {
                if (sightings.riders[i] == rider) {
                    spread(rider, at, second);
                    at = sightings.coaches[i];
                    second = sightings.seconds[i];
                    if (arrival[at] > second) {
                        return false;
                    }
                }
            }
            return true;
        }

        void travel(int journeys) {
            journeysLost = 0;
            journeysAhead = 0;
            int parting = world.train.parting;
            int x = world.seed;
            for (int i = 0; i < journeys; i++) {
                for (int r = 0; r < world.train.riders; r++) {
                    x = (int) ((x * 1103515245L + 12345L) % 2147483648L);
                    int soonest = soonestOf(r, x / 65536 % (parting + 1));
                    if (isLost(r, soonest)) {
                        journeysLost++;
                    } else {
                        journeysAhead += Math.max(0, parting - soonest);
                    }
                }
            }
        }
    }
}
