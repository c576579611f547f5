import java.util.Arrays;

/** The calf of a farm, which goes behind whoever fed it last: see README.md. */
public final class FollowingCalf {
    public static final int BAD = -1, NO = -2, FULL = -3, NONE = -4;

    private static final String FIRST_FARM = "y4;l0,1;l1,2;l2,3;p1;w0123;p2;w3;";

    private static final int MOST_BYTES = 300;
    private static final int MOST_YARDS = 8;
    private static final int MOST_PERSONS = 5;
    private static final int MOST_FIGURES = 12;
    private static final int MOST_FORGETTING = 20;
    private static final int MOST_COST = 99;
    private static final int MOST_TOLD = 6;
    private static final int MOST_UNDONE = 8;
    private static final int MOST_KEPT = 2;
    private static final int MOST_ROUNDS = 12;
    private static final int LAST_MINUTE = 9999;
    private static final int LONGEST_PASS = 99;
    private static final int LONGEST_LOOK = 400;
    private static final int LATEST_GOAL = 40;
    private static final int LATEST_SIGHT = 20;
    private static final int LATEST_CHANCE = 6;
    private static final int MOST_DRAWS = 9999;

    private static final int NOBODY = -1;
    private static final int CANNOT = -2;
    private static final int UNREACHED = 99;

    /** A state is (age times 6, and whom it follows plus 1) times 8, and its yard. */
    private static final int FOLLOWINGS = MOST_PERSONS + 1;
    private static final int STATES = MOST_FORGETTING * FOLLOWINGS * MOST_YARDS;

    private final Text text = new Text();
    private final Reader reader = new Reader(text);
    private Farm farm = new Farm();
    private Farm draft = new Farm();
    private final Moment now = new Moment();
    private final Moments done = new Moments();
    private final Moments kept = new Moments();
    private final Told goals = new Told();
    private final Told sights = new Told();
    private final Search search = new Search();
    private final Contest contest = new Contest();

    public FollowingCalf() {
        for (int i = 0; i < FIRST_FARM.length(); i++) {
            text.append(FIRST_FARM.charAt(i));
        }
        reader.readInto(farm);
        farm.measure();
        text.clear();
        now.begin(farm);
    }

    // ---- farms

    public int write(int n, long v) {
        if (n < 1 || n > 8) {
            return BAD;
        }
        if (text.length() + n > MOST_BYTES) {
            return FULL;
        }
        for (int i = n - 1; i >= 0; i--) {
            text.append((int) (v >>> (8 * i)));
        }
        return text.length();
    }

    public int wipe() {
        int was = text.length();
        text.clear();
        return was;
    }

    public int fault() {
        return reader.readInto(draft);
    }

    public int lay() {
        if (reader.readInto(draft) != NONE || !draft.canBeLaid()) {
            return NO;
        }
        Farm former = farm;
        farm = draft;
        draft = former;
        farm.measure();
        now.begin(farm);
        goals.clear();
        sights.clear();
        done.clear();
        kept.clear();
        return farm.persons();
    }

    public int far(int a, int b) {
        if (!farm.hasYard(a) || !farm.hasYard(b)) {
            return BAD;
        }
        int lanes = farm.distance(a, b);
        return lanes == UNREACHED ? NONE : lanes;
    }

    public int person(int i, int what) {
        if (!farm.hasPerson(i) || what < -1 || what > LAST_MINUTE) {
            return BAD;
        }
        return what == -1 ? farm.cost(i) : farm.yardAt(i, what);
    }

    // ---- minutes

    public int feed(int i) {
        if (!farm.hasPerson(i)) {
            return BAD;
        }
        if (!farm.canFeed(i, now.state, now.minute)) {
            return NO;
        }
        done.push(now);
        now.state = fedState(now.state, i);
        now.feeds++;
        return now.feeds;
    }

    public int pass(int n) {
        if (n < 1 || n > LONGEST_PASS) {
            return BAD;
        }
        if (now.minute + n > LAST_MINUTE) {
            return NO;
        }
        done.push(now);
        now.state = farm.unfed(now.state, now.minute, n);
        now.minute += n;
        return yardOf(now.state);
    }

    public int undo() {
        if (done.size() == 0) {
            return NO;
        }
        done.pop(now);
        return done.size();
    }

    public int calf(int n, int what) {
        if (n < 0 || n > LONGEST_LOOK || !isFlag(what)) {
            return BAD;
        }
        int state = farm.unfed(now.state, now.minute, n);
        return what == 0 ? yardOf(state) : orNone(followedIn(state));
    }

    // ---- goals

    public int goal(int yard, int m) {
        if (!farm.hasYard(yard) || m < 0 || m > LATEST_GOAL) {
            return BAD;
        }
        return goals.add(yard, m);
    }

    public int noGoals() {
        return goals.clear();
    }

    public int price() {
        return search.cheapest(farm, now, goals) == NONE ? search.leastCost() : NONE;
    }

    public int first() {
        return search.cheapest(farm, now, goals) == NONE ? orNone(search.firstFeeder()) : NONE;
    }

    public int bars() {
        return search.cheapest(farm, now, goals);
    }

    public int game(int n, int y, int g, int what) {
        if (n < 1 || n > MOST_ROUNDS || !farm.hasYard(y) || !isFlag(what)) {
            return BAD;
        }
        if (g < 0 || g > farm.everybody()) {
            return BAD;
        }
        int opening = contest.opening(farm, now, n, y, g);
        if (what == 0) {
            return opening == CANNOT ? 0 : 1;
        }
        return orNone(opening);
    }

    // ---- sights

    public int seen(int yard, int m) {
        if (!farm.hasYard(yard) || m < 0 || m > LATEST_SIGHT) {
            return BAD;
        }
        return sights.add(yard, m);
    }

    public int forget() {
        return sights.clear();
    }

    public long how() {
        return search.ways(farm, sights, NOBODY);
    }

    public int sure(int i) {
        if (!farm.hasPerson(i)) {
            return BAD;
        }
        boolean never = search.ways(farm, sights, NOBODY) == 0;
        return !never && search.ways(farm, sights, i) == 0 ? 1 : 0;
    }

    // ---- chance, years

    public long chance(int yard, int n, int part) {
        if (!farm.hasYard(yard) || n < 0 || n > LATEST_CHANCE || !isFlag(part)) {
            return BAD;
        }
        long above = search.weight(farm, now, n, yard);
        long below = 1;
        for (int i = 0; i < n; i++) {
            below *= Search.CASES;
        }
        long shared = commonDivisor(below, above);
        if (shared < 1) {
            return part == 0 ? above : below;
        }
        return part == 0 ? above / shared : below / shared;
    }

    public int year(int z, int n, int what) {
        if (z < 0 || z > MOST_DRAWS || n < 1 || n > LONGEST_LOOK || !isFlag(what)) {
            return BAD;
        }
        int state = farm.firstState();
        int feeds = 0;
        for (int k = 0; k < n; k++) {
            int feeder = drawnFeeder(z, k, farm.persons());
            if (feeder != NOBODY && farm.canFeed(feeder, state, k)) {
                state = fedState(state, feeder);
                feeds++;
            }
            state = farm.onward(state, k + 1);
        }
        return what == 0 ? feeds : yardOf(state);
    }

    public int keep() {
        if (kept.size() >= MOST_KEPT) {
            return FULL;
        }
        kept.push(now);
        return kept.size();
    }

    public int back() {
        if (kept.size() == 0) {
            return NO;
        }
        kept.pop(now);
        done.clear();
        return kept.size();
    }

    public int count(int what) {
        switch (what) {
            case 0:
                return farm.yards();
            case 1:
                return farm.persons();
            case 2:
                return now.minute;
            case 3:
                return goals.size();
            case 4:
                return sights.size();
            case 5:
                return done.size();
            case 6:
                return kept.size();
            case 7:
                return text.length();
            default:
                return BAD;
        }
    }

    private static boolean isFlag(int what) {
        return what == 0 || what == 1;
    }

    private static int orNone(int person) {
        return person >= 0 ? person : NONE;
    }

    private static int packed(int yard, int followed, int age) {
        return (age * FOLLOWINGS + followed + 1) * MOST_YARDS + yard;
    }

    private static int yardOf(int state) {
        return state % MOST_YARDS;
    }

    private static int followedIn(int state) {
        return state / MOST_YARDS % FOLLOWINGS - 1;
    }

    private static int ageIn(int state) {
        return state / (MOST_YARDS * FOLLOWINGS);
    }

    private static int fedState(int state, int feeder) {
        return packed(yardOf(state), feeder, 0);
    }

    private static int drawnFeeder(int z, int minute, int persons) {
        long x = 7919L * z + 6151L * minute + 1;
        long draw = x * x % 65521L;
        if (persons < 1 || draw / 8 % 2 == 0) {
            return NOBODY;
        }
        return (int) (draw % persons);
    }

    private static long commonDivisor(long a, long b) {
        long larger = a;
        long smaller = b;
        for (int i = 0; i < 200 && smaller != 0; i++) {
            long rest = larger % smaller;
            larger = smaller;
            smaller = rest;
        }
        return larger;
    }

    /** THE TEXT, byte by byte. */
    private static final class Text {
        private final byte[] bytes = new byte[MOST_BYTES];
        private int length;

        int length() {
            return length;
        }

        void append(int value) {
            if (length < MOST_BYTES) {
                bytes[length] = (byte) value;
                length++;
            }
        }

        void clear() {
            length = 0;
        }

        /** Behind the end there is -1, which is no byte that an ITEM can want. */
        int byteAt(int place) {
            return place >= 0 && place < length ? bytes[place] & 255 : -1;
        }
    }

    /** Reads THE TEXT, ITEM by ITEM, into a farm. */
    private static final class Reader {
        private final Text text;
        private int place;

        Reader(Text text) {
            this.text = text;
        }

        /** The FAULT, or NONE; what the farm holds behind a FAULT is not to be used. */
        int readInto(Farm farm) {
            farm.clear();
            place = 0;
            for (int items = 0; items < MOST_BYTES && place < text.length(); items++) {
                int start = place;
                if (!readItem(farm)) {
                    return start;
                }
            }
            return NONE;
        }

        private boolean readItem(Farm farm) {
            int letter = text.byteAt(place);
            place++;
            if (letter == 'l') {
                return readLane(farm);
            }
            if (letter == 'w') {
                return readWay(farm);
            }
            int number = readNumber();
            if (number < 0 || !takes(';')) {
                return false;
            }
            switch (letter) {
                case 'y':
                    return farm.tellYards(number);
                case 'p':
                    return farm.tellPerson(number);
                case 'f':
                    return farm.tellForgetting(number);
                case 'c':
                    return farm.tellStart(number);
                default:
                    return false;
            }
        }

        private boolean readLane(Farm farm) {
            int from = readNumber();
            if (from < 0 || !takes(',')) {
                return false;
            }
            int to = readNumber();
            return to >= 0 && takes(';') && farm.tellLane(from, to);
        }

        private boolean readWay(Farm farm) {
            if (!farm.beginWay()) {
                return false;
            }
            int figures = 0;
            for (int i = 0; i < MOST_FIGURES; i++) {
                int yard = text.byteAt(place) - '0';
                if (yard < 0 || yard >= MOST_YARDS) {
                    break;
                }
                farm.addToWay(yard);
                figures++;
                place++;
            }
            return figures > 0 && takes(';');
        }

        /** One or two figures, or -1: a third one is left and is no sign that may follow. */
        private int readNumber() {
            int tens = figureHere();
            if (tens < 0) {
                return -1;
            }
            place++;
            int ones = figureHere();
            if (ones < 0) {
                return tens;
            }
            place++;
            return tens * 10 + ones;
        }

        private int figureHere() {
            int sign = text.byteAt(place);
            return sign >= '0' && sign <= '9' ? sign - '0' : -1;
        }

        private boolean takes(int sign) {
            if (text.byteAt(place) != sign) {
                return false;
            }
            place++;
            return true;
        }
    }

    /** A farm as it is told, and how the calf goes on it. */
    private static final class Farm {
        private final int[] distances = new int[MOST_YARDS * MOST_YARDS];
        private final int[] towards = new int[MOST_YARDS * MOST_YARDS];
        private final int[] costs = new int[MOST_PERSONS];
        private final int[] ways = new int[MOST_PERSONS * MOST_FIGURES];
        private final int[] wayLengths = new int[MOST_PERSONS];
        private int yards;
        private int persons;
        private int forgetting;
        private int start;
        private boolean laneTold;

        void clear() {
            yards = 4;
            persons = 0;
            forgetting = 0;
            start = 0;
            laneTold = false;
            Arrays.fill(distances, UNREACHED);
            for (int yard = 0; yard < MOST_YARDS; yard++) {
                distances[yard * MOST_YARDS + yard] = 0;
            }
        }

        boolean tellYards(int number) {
            if (number < 2 || number > MOST_YARDS || laneTold) {
                return false;
            }
            yards = number;
            return true;
        }

        boolean tellLane(int from, int to) {
            if (!hasYard(from) || !hasYard(to) || from == to) {
                return false;
            }
            distances[from * MOST_YARDS + to] = 1;
            distances[to * MOST_YARDS + from] = 1;
            laneTold = true;
            return true;
        }

        boolean tellPerson(int cost) {
            if (persons >= MOST_PERSONS || cost < 0 || cost > MOST_COST) {
                return false;
            }
            costs[persons] = cost;
            wayLengths[persons] = 0;
            persons++;
            return true;
        }

        boolean tellForgetting(int minutes) {
            if (minutes < 0 || minutes > MOST_FORGETTING) {
                return false;
            }
            forgetting = minutes;
            return true;
        }

        boolean tellStart(int yard) {
            if (yard < 0 || yard >= MOST_YARDS) {
                return false;
            }
            start = yard;
            return true;
        }

        boolean beginWay() {
            if (persons < 1) {
                return false;
            }
            wayLengths[persons - 1] = 0;
            return true;
        }

        void addToWay(int yard) {
            if (persons < 1) {
                return;
            }
            int length = wayLengths[persons - 1];
            if (length < MOST_FIGURES) {
                ways[(persons - 1) * MOST_FIGURES + length] = yard;
                wayLengths[persons - 1] = length + 1;
            }
        }

        boolean canBeLaid() {
            if (persons < 1 || start >= yards) {
                return false;
            }
            for (int i = 0; i < persons; i++) {
                for (int k = 0; k < wayLengths[i]; k++) {
                    if (ways[i * MOST_FIGURES + k] >= yards) {
                        return false;
                    }
                }
            }
            return true;
        }

        /** From lanes alone to all distances, and to the yard that comes next on a way. */
        void measure() {
            for (int over = 0; over < MOST_YARDS; over++) {
                for (int from = 0; from < MOST_YARDS; from++) {
                    for (int to = 0; to < MOST_YARDS; to++) {
                        int round = distance(from, over) + distance(over, to);
                        if (round < distances[from * MOST_YARDS + to]) {
                            distances[from * MOST_YARDS + to] = round;
                        }
                    }
                }
            }
            for (int from = 0; from < MOST_YARDS; from++) {
                for (int to = 0; to < MOST_YARDS; to++) {
                    towards[from * MOST_YARDS + to] = lowestNearer(from, to);
                }
            }
        }

        private int lowestNearer(int from, int to) {
            int lanes = distance(from, to);
            if (lanes == UNREACHED) {
                return from;
            }
            for (int yard = 0; yard < MOST_YARDS; yard++) {
                if (distance(from, yard) == 1 && distance(yard, to) == lanes - 1) {
                    return yard;
                }
            }
            return from;
        }

        int yards() {
            return yards;
        }

        int persons() {
            return persons;
        }

        int everybody() {
            return (1 << persons) - 1;
        }

        boolean hasYard(int yard) {
            return yard >= 0 && yard < yards;
        }

        boolean hasPerson(int i) {
            return i >= 0 && i < persons;
        }

        int cost(int i) {
            return i >= 0 && i < persons ? costs[i] : 0;
        }

        int distance(int from, int to) {
            if (from < 0 || from >= MOST_YARDS || to < 0 || to >= MOST_YARDS) {
                return UNREACHED;
            }
            return distances[from * MOST_YARDS + to];
        }

        int yardAt(int i, int minute) {
            if (i < 0 || i >= persons || minute < 0) {
                return 0;
            }
            int length = wayLengths[i];
            if (length < 1) {
                return 0;
            }
            return ways[i * MOST_FIGURES + minute % length];
        }

        boolean canFeed(int i, int state, int minute) {
            return i >= 0 && i < persons && yardAt(i, minute) == yardOf(state);
        }

        int feedersAt(int yard, int minute) {
            int feeders = 0;
            for (int i = 0; i < persons; i++) {
                if (yardAt(i, minute) == yard) {
                    feeders++;
                }
            }
            return feeders;
        }

        /** All states on this farm are below this. */
        int states() {
            return Math.max(forgetting, 1) * FOLLOWINGS * MOST_YARDS;
        }

        int firstState() {
            return packed(start, NOBODY, 0);
        }

        /** The state when the minute begins, from that at the end of the one ahead of it. */
        int onward(int state, int minute) {
            int yard = yardOf(state);
            int followed = followedIn(state);
            if (followed == NOBODY) {
                return state;
            }
            // Where it never forgets, all ages are one, so that fewer states are told apart.
            int age = forgetting > 0 ? ageIn(state) + 1 : 0;
            if (forgetting > 0 && age >= forgetting) {
                return packed(yard, NOBODY, 0);
            }
            return packed(towards(yard, yardAt(followed, minute)), followed, age);
        }

        private int towards(int from, int to) {
            if (from < 0 || from >= MOST_YARDS || to < 0 || to >= MOST_YARDS) {
                return from;
            }
            return towards[from * MOST_YARDS + to];
        }

        int unfed(int state, int minute, int n) {
            int later = state;
            for (int k = 1; k <= n; k++) {
                later = onward(later, minute + k);
            }
            return later;
        }
    }

    /** What the calf's life is at one minute; when it was fed last is in the state's age. */
    private static final class Moment {
        private int minute;
        private int state;
        private int feeds;

        void begin(Farm farm) {
            minute = 0;
            state = farm.firstState();
            feeds = 0;
        }
    }

    /** Moments one on the other, of which the lowest is lost when there are too many. */
    private static final class Moments {
        private final int[] minutes = new int[MOST_UNDONE];
        private final int[] states = new int[MOST_UNDONE];
        private final int[] feeds = new int[MOST_UNDONE];
        private int count;

        int size() {
            return count;
        }

        void clear() {
            count = 0;
        }

        void push(Moment moment) {
            if (count >= MOST_UNDONE) {
                dropLowest();
            }
            minutes[count] = moment.minute;
            states[count] = moment.state;
            feeds[count] = moment.feeds;
            count++;
        }

        private void dropLowest() {
            for (int i = 1; i < MOST_UNDONE; i++) {
                minutes[i - 1] = minutes[i];
                states[i - 1] = states[i];
                feeds[i - 1] = feeds[i];
            }
            count = MOST_UNDONE - 1;
        }

        void pop(Moment moment) {
            if (count > 0) {
                count--;
                moment.minute = minutes[count];
                moment.state = states[count];
                moment.feeds = feeds[count];
            }
        }
    }

    /** GOALS, or SIGHTS: a yard and a minute each, in the order in which they were told. */
    private static final class Told {
        private final int[] yards = new int[MOST_TOLD];
        private final int[] minutes = new int[MOST_TOLD];
        private int count;

        int size() {
            return count;
        }

        int clear() {
            int were = count;
            count = 0;
            return were;
        }

        int add(int yard, int minute) {
            if (count >= MOST_TOLD) {
                return FULL;
            }
            yards[count] = yard;
            minutes[count] = minute;
            count++;
            return count;
        }

        int lastMinute() {
            int last = 0;
            for (int i = 0; i < count; i++) {
                last = Math.max(last, minutes[i]);
            }
            return last;
        }

        boolean isOf(int i, int minute) {
            return i >= 0 && i < count && minutes[i] == minute;
        }

        int yard(int i) {
            return i >= 0 && i < count ? yards[i] : 0;
        }
    }

    /** The states in which the calf may be at one minute, with a number for each. */
    private static final class Front {
        private static final long ABSENT = -1;

        private final int[] states = new int[STATES];
        private final long[] numbers = new long[STATES];
        private int count;

        Front() {
            Arrays.fill(numbers, ABSENT);
        }

        int size() {
            return count;
        }

        int state(int i) {
            return i >= 0 && i < count ? states[i] : 0;
        }

        long number(int i) {
            return i >= 0 && i < count ? numbers[states[i]] : 0;
        }

        void clear() {
            for (int i = 0; i < count; i++) {
                numbers[states[i]] = ABSENT;
            }
            count = 0;
        }

        /** Two numbers for one state are made one: the lesser of them, or their sum. */
        void put(int state, long number, boolean lesser) {
            if (state < 0 || state >= STATES) {
                return;
            }
            if (numbers[state] != ABSENT) {
                numbers[state] = lesser ? Math.min(numbers[state], number) : numbers[state] + number;
            } else if (count < STATES) {
                states[count] = state;
                numbers[state] = number;
                count++;
            }
        }

        void keepThoseAt(int yard) {
            int left = 0;
            for (int i = 0; i < count; i++) {
                int state = states[i];
                if (yardOf(state) == yard) {
                    states[left] = state;
                    left++;
                } else {
                    numbers[state] = ABSENT;
                }
            }
            count = left;
        }

        long least() {
            long least = ABSENT;
            for (int i = 0; i < count; i++) {
                if (least == ABSENT || numbers[states[i]] < least) {
                    least = numbers[states[i]];
                }
            }
            return least;
        }

        long sum() {
            long sum = 0;
            for (int i = 0; i < count; i++) {
                sum += numbers[states[i]];
            }
            return sum;
        }
    }

    /** Goes through all ways to feed the calf, minute by minute. */
    private static final class Search {
        /** How many cases a minute has by CHANCE: half of them parts among 1 to 5 persons. */
        private static final int CASES = 120;

        /** A cheapest way's number is its cost times this, and who feeds first plus 1. */
        private static final int FEEDERS = 8;

        private static final int BY_COST = 0, BY_COUNT = 1, BY_CHANCE = 2;

        private Front here = new Front();
        private Front next = new Front();
        private int kind;
        private int leftOut;
        private boolean opening;

        /** Which of the goals bars all ways, or NONE. */
        int cheapest(Farm farm, Moment from, Told goals) {
            begin(BY_COST, NOBODY);
            here.put(from.state, 0, true);
            return follow(farm, from.minute, goals);
        }

        int leastCost() {
            return (int) (here.least() / FEEDERS);
        }

        int firstFeeder() {
            return (int) (here.least() % FEEDERS) - 1;
        }

        /** How many ways there are in which the person left out never feeds it. */
        long ways(Farm farm, Told sights, int personLeftOut) {
            begin(BY_COUNT, personLeftOut);
            here.put(farm.firstState(), 1, false);
            follow(farm, 0, sights);
            return here.sum();
        }

        /** In how many of CASES to the power of n it is at the yard behind n minutes. */
        long weight(Farm farm, Moment from, int n, int yard) {
            begin(BY_CHANCE, NOBODY);
            here.put(from.state, 1, false);
            for (int k = 0; k < n; k++) {
                spread(farm, from.minute + k);
            }
            here.keepThoseAt(yard);
            return here.sum();
        }

        private void begin(int newKind, int newLeftOut) {
            kind = newKind;
            leftOut = newLeftOut;
            opening = true;
            here.clear();
            next.clear();
        }

        private int follow(Farm farm, int minute, Told told) {
            int last = told.lastMinute();
            for (int k = 0; k <= last; k++) {
                int barring = sieve(told, k);
                if (barring != NONE) {
                    return barring;
                }
                if (k < last) {
                    spread(farm, minute + k);
                }
            }
            return NONE;
        }

        private int sieve(Told told, int minute) {
            for (int i = 0; i < told.size(); i++) {
                if (told.isOf(i, minute)) {
                    here.keepThoseAt(told.yard(i));
                    if (here.size() == 0) {
                        return i;
                    }
                }
            }
            return NONE;
        }

        private void spread(Farm farm, int minute) {
            for (int i = 0; i < here.size(); i++) {
                branch(farm, here.state(i), here.number(i), minute);
            }
            here.clear();
            Front former = here;
            here = next;
            next = former;
            opening = false;
        }

        private void branch(Farm farm, int state, long number, int minute) {
            boolean lesser = kind == BY_COST;
            int feeders = kind == BY_CHANCE ? farm.feedersAt(yardOf(state), minute) : 0;
            next.put(farm.onward(state, minute + 1), whenUnfed(number, feeders), lesser);
            for (int i = 0; i < farm.persons(); i++) {
                if (i != leftOut && farm.canFeed(i, state, minute)) {
                    int later = farm.onward(fedState(state, i), minute + 1);
                    next.put(later, whenFed(farm, number, i, feeders), lesser);
                }
            }
        }

        private long whenUnfed(long number, int feeders) {
            if (kind != BY_CHANCE) {
                return number;
            }
            return feeders == 0 ? number * CASES : number * (CASES / 2);
        }

        private long whenFed(Farm farm, long number, int feeder, int feeders) {
            if (kind == BY_COST) {
                return number + farm.cost(feeder) * FEEDERS + (opening ? feeder + 1 : 0);
            }
            return feeders > 0 ? number * (CASES / 2 / feeders) : number;
        }
    }

    /** A set of states for each round of a GAME, a bit for each state. */
    private static final class Rounds {
        private static final int WORDS = STATES / 32;

        private final int[] words = new int[(MOST_ROUNDS + 1) * WORDS];

        void clear() {
            Arrays.fill(words, 0);
        }

        boolean has(int round, int state) {
            return isOne(round, state)
                    && (words[round * WORDS + state / 32] >>> (state % 32) & 1) != 0;
        }

        void add(int round, int state) {
            if (isOne(round, state)) {
                words[round * WORDS + state / 32] |= 1 << (state % 32);
            }
        }

        void remove(int round, int state) {
            if (isOne(round, state)) {
                words[round * WORDS + state / 32] &= ~(1 << (state % 32));
            }
        }

        private static boolean isOne(int round, int state) {
            return round >= 0 && round <= MOST_ROUNDS && state >= 0 && state < STATES;
        }
    }

    /** The GAME: forth to all states that can come about, and back, leaving those that win. */
    private static final class Contest {
        private final Rounds rounds = new Rounds();

        /** Who of the side feeds it now so that they win, NOBODY, or CANNOT. */
        int opening(Farm farm, Moment from, int n, int yard, int side) {
            rounds.clear();
            rounds.add(0, from.state);
            for (int k = 0; k < n; k++) {
                goForth(farm, k, from.minute + k, moversIn(farm, k, side));
            }
            leaveThoseAt(farm, n, yard);
            for (int k = n - 1; k > 0; k--) {
                goBack(farm, k, from.minute + k, moversIn(farm, k, side));
            }
            return choice(farm, from.state, 0, from.minute, side, true);
        }

        private static int moversIn(Farm farm, int round, int side) {
            return round % 2 == 0 ? side : farm.everybody() & ~side;
        }

        private void goForth(Farm farm, int round, int minute, int movers) {
            for (int state = 0; state < farm.states(); state++) {
                if (rounds.has(round, state)) {
                    addNext(farm, state, round, minute, movers);
                }
            }
        }

        private void addNext(Farm farm, int state, int round, int minute, int movers) {
            rounds.add(round + 1, farm.onward(state, minute + 1));
            for (int i = 0; i < farm.persons(); i++) {
                if ((movers >> i & 1) != 0 && farm.canFeed(i, state, minute)) {
                    rounds.add(round + 1, farm.onward(fedState(state, i), minute + 1));
                }
            }
        }

        private void leaveThoseAt(Farm farm, int round, int yard) {
            for (int state = 0; state < farm.states(); state++) {
                if (yardOf(state) != yard) {
                    rounds.remove(round, state);
                }
            }
        }

        private void goBack(Farm farm, int round, int minute, int movers) {
            boolean own = round % 2 == 0;
            for (int state = 0; state < farm.states(); state++) {
                if (rounds.has(round, state)) {
                    boolean found = choice(farm, state, round, minute, movers, own) != CANNOT;
                    // The side wants to find what wins, the others what does not.
                    if (found != own) {
                        rounds.remove(round, state);
                    }
                }
            }
        }

        /** By whom, NOBODY first, it comes to win (or not to) in the next round; CANNOT. */
        private int choice(Farm farm, int state, int round, int minute, int movers, boolean win) {
            if (rounds.has(round + 1, farm.onward(state, minute + 1)) == win) {
                return NOBODY;
            }
            for (int i = 0; i < farm.persons(); i++) {
                if ((movers >> i & 1) != 0 && farm.canFeed(i, state, minute)
                        && rounds.has(round + 1, farm.onward(fedState(state, i), minute + 1)) == win) {
                    return i;
                }
            }
            return CANNOT;
        }
    }
}
