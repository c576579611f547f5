import java.util.ArrayList;
import java.util.List;
import java.util.Random;

/**
 * What is asked ahead of time against what comes about: every way to feed the calf is lived
 * through, minute by minute, by feed() and pass(1) on objects of their own, and what GOALS,
 * GAMES, SIGHTS and CHANCES answer is worked out from these lives alone. So no second model
 * of the farm is needed: calls of the class are held against other calls of the class.
 */
public final class LivedTest {
    private static final int NO = -2, NONE = -4;
    private static final int FARMS = 60;
    private static final int MOST_LIVES = 2000;
    private static final int LONGEST = 6;

    /** A moment of a life: where it is, and what comes of it by nobody (0) or PERSON i (i + 1). */
    private static final class Life {
        private final int yard;
        private final Life[] next;

        Life(int yard, int persons) {
            this.yard = yard;
            this.next = new Life[persons + 1];
        }

        int feeders() {
            int feeders = 0;
            for (int i = 1; i < next.length; i++) {
                feeders += next[i] != null ? 1 : 0;
            }
            return feeders;
        }
    }

    private record Lives(Life root, int depth) { }

    private record Mark(int yard, int m) { }

    private final Checks checks = new Checks();
    private final Random random = new Random(9);
    private String text;
    private int yards;
    private int[] costs;
    private int made;

    public static void main(String[] args) {
        LivedTest test = new LivedTest();
        for (int k = 0; k < FARMS; k++) {
            test.oneFarm();
        }
        test.checks.end("LivedTest");
    }

    private void oneFarm() {
        text = farmText();
        FollowingCalf x = checks.laid(text);
        yards = x.count(0);
        costs = new int[x.count(1)];
        for (int i = 0; i < costs.length; i++) {
            costs[i] = x.person(i, -1);
        }
        List<Integer> past = past();
        Lives later = allLives(past);
        Lives all = allLives(List.of());
        laterAsPassed(past);
        for (int k = 0; k < 6; k++) {
            goals(past, later.root, later.depth);
            sights(past, all.root, all.depth);
        }
        games(past, later.root, later.depth);
        chances(past, later.root, later.depth);
        years(past);
    }

    private String farmText() {
        StringBuilder told = new StringBuilder();
        int many = 2 + random.nextInt(7);
        told.append('y').append(many).append(';');
        for (int a = 1; a < many; a++) {
            if (random.nextInt(8) > 0) {
                told.append('l').append(a).append(',').append(random.nextInt(a)).append(';');
            }
        }
        if (many > 2) {
            told.append("l0,").append(many - 1).append(';');
        }
        int persons = 1 + random.nextInt(5);
        for (int i = 0; i < persons; i++) {
            told.append('p').append(random.nextInt(4)).append(";w");
            for (int k = random.nextInt(6); k >= 0; k--) {
                told.append(random.nextInt(2) == 0 ? 0 : random.nextInt(many));
            }
            told.append(';');
        }
        if (random.nextInt(2) == 0) {
            told.append('f').append(1 + random.nextInt(5)).append(';');
        }
        return told.toString();
    }

    /** Feeders one behind the other, -1 for nobody, a minute each, as they come about. */
    private List<Integer> past() {
        List<Integer> past = new ArrayList<>();
        for (int k = random.nextInt(6); k > 0; k--) {
            past.add(random.nextInt(costs.length + 1) - 1);
        }
        return past;
    }

    /** An object that has lived so; feeders who are not there are left out. */
    private FollowingCalf lived(List<Integer> past) {
        FollowingCalf x = Checks.written(new FollowingCalf(), text);
        x.lay();
        for (int feeder : past) {
            if (feeder >= 0) {
                x.feed(feeder);
            }
            x.pass(1);
        }
        return x;
    }

    private static List<Integer> and(List<Integer> past, int feeder) {
        List<Integer> longer = new ArrayList<>(past);
        longer.add(feeder);
        return longer;
    }

    /** All lives from here on, as deep as there are not too many of them. */
    private Lives allLives(List<Integer> past) {
        for (int depth = LONGEST; depth > 1; depth--) {
            made = 0;
            Life root = livedOut(past, depth);
            if (made <= MOST_LIVES) {
                return new Lives(root, depth);
            }
        }
        made = 0;
        return new Lives(livedOut(past, 1), 1);
    }

    private Life livedOut(List<Integer> past, int depth) {
        FollowingCalf x = lived(past);
        Life life = new Life(x.calf(0, 0), costs.length);
        made++;
        for (int i = -1; depth > 0 && i < costs.length && made <= MOST_LIVES; i++) {
            if (i < 0 || lived(past).feed(i) != NO) {
                life.next[i + 1] = livedOut(and(past, i), depth - 1);
            }
        }
        return life;
    }

    private String told(List<Integer> past, String call) {
        return text + " lived " + past + ": " + call;
    }

    private void laterAsPassed(List<Integer> past) {
        FollowingCalf asked = lived(past);
        FollowingCalf goes = lived(past);
        for (int n = 0; n <= 40; n++) {
            checks.due(told(past, "calf(" + n + ", 0)"), asked.calf(n, 0), goes.calf(0, 0));
            checks.due(told(past, "calf(" + n + ", 1)"), asked.calf(n, 1), goes.calf(0, 1));
            goes.pass(1);
        }
        FollowingCalf leaps = lived(past);
        leaps.pass(41);
        checks.due(told(past, "pass(41)"), leaps.calf(0, 0), goes.calf(0, 0));
        checks.due(told(past, "pass(41)"), leaps.calf(0, 1), goes.calf(0, 1));
    }

    // ---- goals

    /** Marks along one of the lives, some of them moved to another yard. */
    private List<Mark> marks(Life from, int depth) {
        List<Mark> marks = new ArrayList<>();
        int[] along = new int[depth + 1];
        Life life = from;
        for (int k = 0; k <= depth; k++) {
            along[k] = life.yard;
            int feeder = random.nextInt(life.next.length);
            life = life.next[feeder] != null ? life.next[feeder] : life.next[0];
        }
        for (int k = random.nextInt(5); k >= 0; k--) {
            int m = random.nextInt(depth + 1);
            boolean moved = random.nextInt(7) == 0;
            marks.add(new Mark(moved ? random.nextInt(yards) : along[m], m));
        }
        return marks;
    }

    private static int last(List<Mark> marks) {
        int last = 0;
        for (Mark mark : marks) {
            last = Math.max(last, mark.m);
        }
        return last;
    }

    private static boolean fits(Life life, int minute, List<Mark> marks) {
        for (Mark mark : marks) {
            if (mark.m == minute && mark.yard != life.yard) {
                return false;
            }
        }
        return true;
    }

    /** What the cheapest of all lives costs from here on, or NONE. */
    private int cheapest(Life life, int minute, int last, List<Mark> marks) {
        if (!fits(life, minute, marks)) {
            return NONE;
        }
        if (minute == last) {
            return 0;
        }
        int best = NONE;
        for (int i = 0; i < life.next.length; i++) {
            int price = priceBy(life, i, minute, last, marks);
            if (price != NONE && (best == NONE || price < best)) {
                best = price;
            }
        }
        return best;
    }

    private int priceBy(Life life, int i, int minute, int last, List<Mark> marks) {
        int rest = life.next[i] == null ? NONE : cheapest(life.next[i], minute + 1, last, marks);
        return rest == NONE ? NONE : rest + (i == 0 ? 0 : costs[i - 1]);
    }

    private int firstOf(Life now, int best, List<Mark> marks) {
        for (int i = 0; best != NONE && last(marks) > 0 && i < now.next.length; i++) {
            if (priceBy(now, i, 0, last(marks), marks) == best) {
                return i == 0 ? NONE : i - 1;
            }
        }
        return NONE;
    }

    private int barring(Life now, List<Mark> marks) {
        List<Mark> ahead = new ArrayList<>();
        for (int m = 0; m <= last(marks); m++) {
            for (int i = 0; i < marks.size(); i++) {
                if (marks.get(i).m == m) {
                    ahead.add(marks.get(i));
                    if (cheapest(now, 0, m, ahead) == NONE) {
                        return i;
                    }
                }
            }
        }
        return NONE;
    }

    private void goals(List<Integer> past, Life now, int depth) {
        FollowingCalf x = lived(past);
        List<Mark> marks = marks(now, depth);
        for (Mark mark : marks) {
            x.goal(mark.yard, mark.m);
        }
        int best = cheapest(now, 0, last(marks), marks);
        checks.due(told(past, "price() of " + marks), x.price(), best);
        checks.due(told(past, "first() of " + marks), x.first(), firstOf(now, best, marks));
        checks.due(told(past, "bars() of " + marks), x.bars(), barring(now, marks));
    }

    private static boolean wins(Life life, int round, int n, int y, int g) {
        if (round == n) {
            return life.yard == y;
        }
        boolean own = round % 2 == 0;
        for (int i = 0; i < life.next.length; i++) {
            boolean may = i == 0 || (g >> i - 1 & 1) == (own ? 1 : 0);
            if (may && life.next[i] != null && wins(life.next[i], round + 1, n, y, g) == own) {
                return own;
            }
        }
        return !own;
    }

    private static int feedsOf(Life now, int n, int y, int g) {
        for (int i = 0; i < now.next.length; i++) {
            boolean may = i == 0 || (g >> i - 1 & 1) == 1;
            if (may && now.next[i] != null && wins(now.next[i], 1, n, y, g)) {
                return i == 0 ? NONE : i - 1;
            }
        }
        return NONE;
    }

    private void games(List<Integer> past, Life now, int depth) {
        for (int n = 1; n <= depth; n++) {
            FollowingCalf x = lived(past);
            for (int y = 0; y < yards; y++) {
                for (int k = 0; k < 4; k++) {
                    int g = random.nextInt(1 << costs.length);
                    String call = "game(" + n + ", " + y + ", " + g + ", ";
                    checks.due(told(past, call + "0)"), x.game(n, y, g, 0), wins(now, 0, n, y, g) ? 1 : 0);
                    checks.due(told(past, call + "1)"), x.game(n, y, g, 1), feedsOf(now, n, y, g));
                }
            }
        }
    }

    // ---- sights

    /** How many lives are as the marks say; those in which the one left out feeds it do not count. */
    private static long ways(Life life, int minute, int last, List<Mark> marks, int leftOut) {
        if (!fits(life, minute, marks)) {
            return 0;
        }
        if (minute == last) {
            return 1;
        }
        long ways = 0;
        for (int i = 0; i < life.next.length; i++) {
            if (life.next[i] != null && i - 1 != leftOut) {
                ways += ways(life.next[i], minute + 1, last, marks, leftOut);
            }
        }
        return ways;
    }

    private void sights(List<Integer> past, Life beginning, int depth) {
        FollowingCalf x = lived(past);
        List<Mark> marks = marks(beginning, depth);
        for (Mark mark : marks) {
            x.seen(mark.yard, mark.m);
        }
        // Nobody is left out by -2: -1 would be a minute in which nobody feeds it.
        long all = ways(beginning, 0, last(marks), marks, -2);
        checks.due(told(past, "how() of " + marks), x.how(), all);
        for (int i = 0; i < costs.length; i++) {
            long without = ways(beginning, 0, last(marks), marks, i);
            checks.due(told(past, "sure(" + i + ") of " + marks), x.sure(i), all > 0 && without == 0 ? 1 : 0);
        }
    }

    // ---- chance, years

    /** In how many of 120 to the power of n cases it is at the yard. */
    private static long cases(Life life, int n, int yard) {
        if (n == 0) {
            return life.yard == yard ? 1 : 0;
        }
        int feeders = life.feeders();
        long cases = (feeders == 0 ? 120 : 60) * cases(life.next[0], n - 1, yard);
        for (int i = 1; i < life.next.length; i++) {
            if (life.next[i] != null) {
                cases += 60 / feeders * cases(life.next[i], n - 1, yard);
            }
        }
        return cases;
    }

    private static long divisor(long a, long b) {
        return b == 0 ? a : divisor(b, a % b);
    }

    private void chances(List<Integer> past, Life now, int depth) {
        FollowingCalf x = lived(past);
        long below = 1;
        for (int n = 0; n <= depth; n++) {
            for (int yard = 0; yard < yards; yard++) {
                long above = cases(now, n, yard);
                long shared = divisor(above, below);
                String call = "chance(" + yard + ", " + n + ", ";
                checks.due(told(past, call + "0)"), x.chance(yard, n, 0), above / shared);
                checks.due(told(past, call + "1)"), x.chance(yard, n, 1), below / shared);
            }
            below *= 120;
        }
    }

    /** A YEAR lived: feed() is asked for whoever is drawn, and refuses him if he is not there. */
    private void years(List<Integer> past) {
        int z = random.nextInt(10000);
        FollowingCalf x = lived(past);
        FollowingCalf goes = lived(List.of());
        int feeds = 0;
        for (int n = 1; n <= 100; n++) {
            long sum = 7919L * z + 6151L * (n - 1) + 1;
            long draw = Math.floorMod(sum * sum, 65521L);
            if ((draw & 8) != 0) {
                feeds = Math.max(feeds, goes.feed((int) (draw % costs.length)));
            }
            goes.pass(1);
            checks.due(told(past, "year(" + z + ", " + n + ", 0)"), x.year(z, n, 0), feeds);
            checks.due(told(past, "year(" + z + ", " + n + ", 1)"), x.year(z, n, 1), goes.calf(0, 0));
        }
    }
}
