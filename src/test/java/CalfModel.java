import java.math.BigInteger;
import java.util.ArrayDeque;
import java.util.ArrayList;
import java.util.Comparator;
import java.util.HashMap;
import java.util.List;
import java.util.Map;
import java.util.regex.Matcher;
import java.util.regex.Pattern;

/**
 * The document once more, written another way (from the end backwards, with absolute
 * minutes, patterns and fractions), so that an error would have to be made twice.
 */
final class CalfModel {
    static final int BAD = -1, NO = -2, FULL = -3, NONE = -4;
    private static final int IMPOSSIBLE = 1_000_000;

    record Calf(int minute, int yard, int who, int fedAt, int feeds) { }

    record Mark(int yard, int m) { }

    record Key(int minute, int yard, int who, int fedAt, boolean flag) { }

    record Share(BigInteger above, BigInteger below) { }

    static final class Farm {
        int yards = 4;
        int forgets;
        int start;
        boolean laneTold;
        final List<Integer> costs = new ArrayList<>();
        final List<String> ways = new ArrayList<>();
        final List<int[]> lanes = new ArrayList<>();
    }

    private static final Pattern ITEM = Pattern.compile(
            "y(\\d\\d?);|l(\\d\\d?),(\\d\\d?);|p(\\d\\d?);|w([0-7]{1,12});|f(\\d\\d?);|c(\\d\\d?);");

    private final StringBuilder text = new StringBuilder();
    private Farm farm;
    private Calf now;
    private final ArrayDeque<Calf> done = new ArrayDeque<>();
    private final ArrayDeque<Calf> kept = new ArrayDeque<>();
    private final List<Mark> goals = new ArrayList<>();
    private final List<Mark> sights = new ArrayList<>();

    CalfModel() {
        text.append("y4;l0,1;l1,2;l2,3;p1;w0123;p2;w3;");
        lay();
        text.setLength(0);
    }

    // ---- farms

    int write(int n, long v) {
        if (n < 1 || n > 8) return BAD;
        if (text.length() + n > 300) return FULL;
        byte[] all = java.nio.ByteBuffer.allocate(8).putLong(v).array();
        for (int i = 8 - n; i < 8; i++) text.append((char) (all[i] & 255));
        return text.length();
    }

    int wipe() {
        int was = text.length();
        text.setLength(0);
        return was;
    }

    int fault() {
        return parse(new Farm());
    }

    private int parse(Farm f) {
        Matcher items = ITEM.matcher(text);
        int place = 0;
        while (place < text.length()) {
            items.region(place, text.length());
            if (!items.lookingAt() || !take(f, items)) return place;
            place = items.end();
        }
        return NONE;
    }

    private static boolean take(Farm f, Matcher item) {
        switch (item.group().charAt(0)) {
            case 'y' -> {
                f.yards = Integer.parseInt(item.group(1));
                return f.yards >= 2 && f.yards <= 8 && !f.laneTold;
            }
            case 'l' -> {
                int a = Integer.parseInt(item.group(2));
                int b = Integer.parseInt(item.group(3));
                f.lanes.add(new int[] {a, b});
                f.laneTold = true;
                return a != b && a < f.yards && b < f.yards;
            }
            case 'p' -> {
                f.costs.add(Integer.parseInt(item.group(4)));
                f.ways.add("0");
                return f.costs.size() <= 5;
            }
            case 'w' -> {
                if (f.ways.isEmpty()) return false;
                f.ways.set(f.ways.size() - 1, item.group(5));
                return true;
            }
            case 'f' -> {
                f.forgets = Integer.parseInt(item.group(6));
                return f.forgets <= 20;
            }
            default -> {
                f.start = Integer.parseInt(item.group(7));
                return f.start <= 7;
            }
        }
    }

    int lay() {
        Farm f = new Farm();
        if (parse(f) != NONE || f.costs.isEmpty() || f.start >= f.yards) return NO;
        for (String way : f.ways) {
            for (char c : way.toCharArray()) if (c - '0' >= f.yards) return NO;
        }
        farm = f;
        now = beginning();
        done.clear();
        kept.clear();
        goals.clear();
        sights.clear();
        return f.costs.size();
    }

    private Calf beginning() {
        return new Calf(0, farm.start, -1, 0, 0);
    }

    private boolean yard(int y) {
        return y >= 0 && y < farm.yards;
    }

    private boolean someone(int i) {
        return i >= 0 && i < farm.costs.size();
    }

    int far(int a, int b) {
        if (!yard(a) || !yard(b)) return BAD;
        return distance(a, b);
    }

    /** Breadth first, from one yard to the other. */
    private int distance(int a, int b) {
        int[] far = new int[8];
        java.util.Arrays.fill(far, NONE);
        far[a] = 0;
        ArrayDeque<Integer> open = new ArrayDeque<>(List.of(a));
        while (!open.isEmpty()) {
            int at = open.poll();
            for (int y = 0; y < 8; y++) {
                if (lane(at, y) && far[y] == NONE) {
                    far[y] = far[at] + 1;
                    open.add(y);
                }
            }
        }
        return far[b];
    }

    private boolean lane(int a, int b) {
        for (int[] l : farm.lanes) {
            if (l[0] == a && l[1] == b || l[0] == b && l[1] == a) return true;
        }
        return false;
    }

    int person(int i, int what) {
        if (!someone(i) || what < -1 || what > 9999) return BAD;
        return what < 0 ? farm.costs.get(i) : at(i, what);
    }

    private int at(int i, int minute) {
        String way = farm.ways.get(i);
        return way.charAt(minute % way.length()) - '0';
    }

    // ---- minutes

    private Calf fed(Calf c, int i) {
        return new Calf(c.minute, c.yard, i, c.minute, c.feeds + 1);
    }

    private Calf next(Calf c) {
        int minute = c.minute + 1;
        if (c.who < 0) return new Calf(minute, c.yard, -1, 0, c.feeds);
        if (farm.forgets > 0 && minute - c.fedAt >= farm.forgets) {
            return new Calf(minute, c.yard, -1, 0, c.feeds);
        }
        int to = at(c.who, minute);
        int yard = c.yard;
        int far = distance(yard, to);
        if (far > 0) {
            for (int y = 7; y >= 0; y--) {
                if (lane(c.yard, y) && distance(y, to) == far - 1) yard = y;
            }
        }
        return new Calf(minute, yard, c.who, c.fedAt, c.feeds);
    }

    private Calf later(Calf c, int n) {
        Calf l = c;
        for (int k = 0; k < n; k++) l = next(l);
        return l;
    }

    private void remember() {
        done.push(now);
        if (done.size() > 8) done.removeLast();
    }

    int feed(int i) {
        if (!someone(i)) return BAD;
        if (at(i, now.minute) != now.yard) return NO;
        remember();
        now = fed(now, i);
        return now.feeds;
    }

    int pass(int n) {
        if (n < 1 || n > 99) return BAD;
        if (now.minute + n > 9999) return NO;
        remember();
        now = later(now, n);
        return now.yard;
    }

    int undo() {
        if (done.isEmpty()) return NO;
        now = done.pop();
        return done.size();
    }

    int calf(int n, int what) {
        if (n < 0 || n > 400 || what < 0 || what > 1) return BAD;
        Calf l = later(now, n);
        return what == 0 ? l.yard : l.who < 0 ? NONE : l.who;
    }

    /** Where it may be behind n minutes, fed at random: the same for the same seed. */
    int roamed(long seed, int n, boolean fromNow) {
        java.util.Random random = new java.util.Random(seed);
        Calf c = fromNow ? now : beginning();
        for (int k = 0; k < n; k++) {
            List<Integer> all = feeders(c);
            c = behind(c, all.get(random.nextInt(all.size())));
        }
        return c.yard;
    }

    // ---- goals

    int goal(int y, int m) {
        if (!yard(y) || m < 0 || m > 40) return BAD;
        if (goals.size() == 6) return FULL;
        goals.add(new Mark(y, m));
        return goals.size();
    }

    int noGoals() {
        int were = goals.size();
        goals.clear();
        return were;
    }

    private static int last(List<Mark> marks) {
        return marks.stream().mapToInt(Mark::m).max().orElse(0);
    }

    private static boolean fits(Calf c, List<Mark> marks, int since) {
        for (Mark g : marks) if (since + g.m == c.minute && g.yard != c.yard) return false;
        return true;
    }

    /** -1, which is nobody, and all who can feed it. */
    private List<Integer> feeders(Calf c) {
        List<Integer> all = new ArrayList<>(List.of(-1));
        for (int i = 0; i < farm.costs.size(); i++) if (at(i, c.minute) == c.yard) all.add(i);
        return all;
    }

    private Calf behind(Calf c, int feeder) {
        return next(feeder < 0 ? c : fed(c, feeder));
    }

    private static Key key(Calf c, boolean flag) {
        return new Key(c.minute, c.yard, c.who, c.fedAt, flag);
    }

    private int cost(Calf c, List<Mark> marks, int since, int end, Map<Key, Integer> memo) {
        if (!fits(c, marks, since)) return IMPOSSIBLE;
        if (c.minute == end) return 0;
        Integer known = memo.get(key(c, false));
        if (known != null) return known;
        int best = IMPOSSIBLE;
        for (int i : feeders(c)) {
            int own = i < 0 ? 0 : farm.costs.get(i);
            best = Math.min(best, own + cost(behind(c, i), marks, since, end, memo));
        }
        memo.put(key(c, false), best);
        return best;
    }

    private int cost(List<Mark> marks) {
        int best = cost(now, marks, now.minute, now.minute + last(marks), new HashMap<>());
        return best >= IMPOSSIBLE ? NONE : best;
    }

    int price() {
        return cost(goals);
    }

    int first() {
        int best = cost(goals);
        int end = now.minute + last(goals);
        if (best == NONE || end == now.minute) return NONE;
        for (int i : feeders(now)) {
            int own = i < 0 ? 0 : farm.costs.get(i);
            int rest = cost(behind(now, i), goals, now.minute, end, new HashMap<>());
            if (own + rest == best) return i < 0 ? NONE : i;
        }
        throw new IllegalStateException("no first one");
    }

    int bars() {
        List<Mark> order = new ArrayList<>(goals);
        order.sort(Comparator.comparingInt(Mark::m));
        for (int k = 1; k <= order.size(); k++) {
            if (cost(order.subList(0, k)) == NONE) {
                Mark barring = order.get(k - 1);
                for (int i = 0; i < goals.size(); i++) if (goals.get(i) == barring) return i;
            }
        }
        return NONE;
    }

    int game(int n, int y, int g, int what) {
        if (n < 1 || n > 12 || !yard(y) || g < 0 || g >= 1 << farm.costs.size()) return BAD;
        if (what < 0 || what > 1) return BAD;
        Map<Key, Boolean> memo = new HashMap<>();
        for (int i : feeders(now)) {
            if (i >= 0 && (g >> i & 1) == 0) continue;
            if (won(behind(now, i), now.minute, now.minute + n, y, g, memo)) {
                return what == 0 ? 1 : i < 0 ? NONE : i;
            }
        }
        return what == 0 ? 0 : NONE;
    }

    private boolean won(Calf c, int since, int end, int y, int g, Map<Key, Boolean> memo) {
        if (c.minute == end) return c.yard == y;
        Boolean known = memo.get(key(c, false));
        if (known != null) return known;
        boolean own = (c.minute - since) % 2 == 0;
        boolean result = !own;
        for (int i : feeders(c)) {
            if (i >= 0 && (g >> i & 1) != (own ? 1 : 0)) continue;
            if (won(behind(c, i), since, end, y, g, memo) == own) result = own;
        }
        memo.put(key(c, false), result);
        return result;
    }

    // ---- sights

    int seen(int y, int m) {
        if (!yard(y) || m < 0 || m > 20) return BAD;
        if (sights.size() == 6) return FULL;
        sights.add(new Mark(y, m));
        return sights.size();
    }

    int forget() {
        int were = sights.size();
        sights.clear();
        return were;
    }

    long how() {
        return ways(beginning(), -1, true, new HashMap<>());
    }

    /** How many ways there are; with a person, only those in which he feeds it. */
    private long ways(Calf c, int person, boolean fedByHim, Map<Key, Long> memo) {
        if (!fits(c, sights, 0)) return 0;
        if (c.minute == last(sights)) return fedByHim ? 1 : 0;
        Long known = memo.get(key(c, fedByHim));
        if (known != null) return known;
        long all = 0;
        for (int i : feeders(c)) all += ways(behind(c, i), person, fedByHim || i == person, memo);
        memo.put(key(c, fedByHim), all);
        return all;
    }

    int sure(int i) {
        if (!someone(i)) return BAD;
        long all = how();
        return all > 0 && ways(beginning(), i, false, new HashMap<>()) == all ? 1 : 0;
    }

    // ---- chance, years

    long chance(int y, int n, int part) {
        if (!yard(y) || n < 0 || n > 6 || part < 0 || part > 1) return BAD;
        Share share = share(now, now.minute + n, y);
        return (part == 0 ? share.above : share.below).longValueExact();
    }

    private Share share(Calf c, int end, int y) {
        if (c.minute == end) return reduced(BigInteger.valueOf(c.yard == y ? 1 : 0), BigInteger.ONE);
        List<Integer> all = feeders(c);
        int some = all.size() - 1;
        Share sum = reduced(BigInteger.ZERO, BigInteger.ONE);
        for (int i : all) {
            long cases = some == 0 ? 1 : i < 0 ? 2 : 2L * some;
            Share s = share(behind(c, i), end, y);
            BigInteger below = s.below.multiply(BigInteger.valueOf(cases));
            sum = reduced(sum.above.multiply(below).add(s.above.multiply(sum.below)),
                    sum.below.multiply(below));
        }
        return sum;
    }

    private static Share reduced(BigInteger above, BigInteger below) {
        BigInteger shared = above.gcd(below);
        return new Share(above.divide(shared), below.divide(shared));
    }

    int year(int z, int n, int what) {
        if (z < 0 || z > 9999 || n < 1 || n > 400 || what < 0 || what > 1) return BAD;
        Calf c = beginning();
        for (int k = 0; k < n; k++) {
            BigInteger x = BigInteger.valueOf(7919).multiply(BigInteger.valueOf(z))
                    .add(BigInteger.valueOf(6151L * k + 1));
            int draw = x.multiply(x).mod(BigInteger.valueOf(65521)).intValueExact();
            int who = draw % farm.costs.size();
            if (at(who, k) == c.yard && (draw >> 3 & 1) == 1) c = fed(c, who);
            c = next(c);
        }
        return what == 0 ? c.feeds : c.yard;
    }

    int keep() {
        if (kept.size() == 2) return FULL;
        kept.push(now);
        return kept.size();
    }

    int back() {
        if (kept.isEmpty()) return NO;
        now = kept.pop();
        done.clear();
        return kept.size();
    }

    int count(int what) {
        int[] all = {farm.yards, farm.costs.size(), now.minute, goals.size(), sights.size(),
            done.size(), kept.size(), text.length()};
        return what < 0 || what > 7 ? BAD : all[what];
    }
}
