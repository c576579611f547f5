import java.util.Random;

/** Random runs of calls, each answer compared with that of CalfModel. */
public final class ModelTest {
    private static final int RUNS = 700;
    private static final int CALLS = 400;

    private final Checks checks = new Checks();
    private Random random;
    private FollowingCalf x;
    private CalfModel model;
    private String run;
    private long roaming;

    public static void main(String[] args) {
        ModelTest test = new ModelTest();
        for (int seed = 1; seed <= RUNS; seed++) {
            test.oneRun(seed);
        }
        test.checks.end("ModelTest");
    }

    private void oneRun(int seed) {
        random = new Random(seed);
        x = new FollowingCalf();
        model = new CalfModel();
        run = "run " + seed + ": ";
        int calls = 0;
        if (seed % 10 != 0) {
            calls += tell(farmText());
            due("lay()", x.lay(), model.lay());
            calls++;
        }
        while (calls < CALLS) {
            calls += oneCall();
        }
    }

    private void due(String call, long got, long want) {
        checks.due(run + call, got, want);
    }

    private int tell(String text) {
        due("wipe()", x.wipe(), model.wipe());
        int calls = 1;
        for (int from = 0; from < text.length(); from += 8) {
            int to = Math.min(from + 8, text.length());
            long v = random.nextLong();
            for (int i = from; i < to; i++) {
                v = v << 8 | text.charAt(i) & 255;
            }
            due("write(" + (to - from) + ", " + v + ")", x.write(to - from, v), model.write(to - from, v));
            calls++;
        }
        due("fault() of " + text, x.fault(), model.fault());
        return calls + 1;
    }

    private int below(int n) {
        return random.nextInt(n);
    }

    private String farmText() {
        StringBuilder text = new StringBuilder();
        int yards = 4;
        if (below(4) > 0) {
            yards = 2 + below(7);
            text.append('y').append(yards).append(';');
        }
        boolean ring = below(3) > 0;
        for (int a = 0; ring && a < yards; a++) {
            text.append('l').append(a).append(',').append((a + 1) % yards).append(';');
        }
        int lanes = below(ring ? 3 : 2 * yards);
        for (int i = 0; i < lanes; i++) {
            int a = below(yards);
            int b = (a + 1 + below(yards - 1)) % yards;
            text.append('l').append(a).append(',').append(b).append(';');
        }
        int persons = 1 + below(5);
        for (int i = 0; i < persons; i++) {
            text.append('p').append(below(3) == 0 ? below(2) : below(100)).append(';');
            if (below(6) > 0) {
                text.append('w').append(way(yards)).append(';');
            }
        }
        if (below(3) > 0) {
            text.append('f').append(below(2) == 0 ? below(21) : below(6)).append(';');
        }
        if (below(2) > 0) {
            text.append('c').append(below(yards)).append(';');
        }
        return text.toString();
    }

    private String way(int yards) {
        StringBuilder way = new StringBuilder();
        int length = 1 + below(12);
        int narrow = 1 + below(yards);
        boolean walks = below(3) > 0;
        int at = below(2) * below(yards);
        for (int i = 0; i < length; i++) {
            at = walks ? (at + below(3) + yards - 1) % yards : below(narrow);
            way.append(at);
        }
        return way.toString();
    }

    /** A good text, with a byte or a piece of it changed, most of them faulty. */
    private String spoilt(String text) {
        StringBuilder spoilt = new StringBuilder(text);
        String signs = "0123456789ylpwfc;,;,x \u00ff";
        for (int i = below(3); i >= 0 && spoilt.length() > 0; i--) {
            int place = below(spoilt.length());
            char sign = signs.charAt(below(signs.length()));
            switch (below(3)) {
                case 0 -> spoilt.setCharAt(place, sign);
                case 1 -> spoilt.insert(place, sign);
                default -> spoilt.deleteCharAt(place);
            }
        }
        return spoilt.toString();
    }

    private int oneCall() {
        switch (below(60)) {
            case 0 -> {
                int calls = tell(below(4) == 0 ? farmText() : spoilt(farmText()));
                due("lay()", x.lay(), model.lay());
                return calls + 1;
            }
            case 1, 2, 3, 4, 5, 6, 7, 8, 9 -> {
                int i = anyPerson();
                due("feed(" + i + ")", x.feed(i), model.feed(i));
            }
            case 10, 11, 12, 13, 14, 15 -> {
                int n = below(9) == 0 ? below(102) - 1 : 1 + below(4);
                due("pass(" + n + ")", x.pass(n), model.pass(n));
            }
            case 16, 17 -> due("undo()", x.undo(), model.undo());
            case 18, 19, 20 -> {
                int n = below(9) == 0 ? below(404) - 1 : below(12);
                int what = below(20) == 0 ? 2 - 3 * below(2) : below(2);
                due("calf(" + n + ", " + what + ")", x.calf(n, what), model.calf(n, what));
            }
            case 21, 22, 23, 24 -> {
                int m = below(3) == 0 ? below(43) - 1 : below(9);
                int y = below(4) == 0 ? anyYard() : model.roamed(roaming, m, true);
                due("goal(" + y + ", " + m + ")", x.goal(y, m), model.goal(y, m));
                askForGoals();
                return 4;
            }
            case 25, 26 -> {
                due("noGoals()", x.noGoals(), model.noGoals());
                roaming = random.nextLong();
            }
            case 27, 28, 29 -> askForGoals();
            case 30, 31, 32, 33, 34, 35 -> playGame();
            case 36, 37, 38, 39 -> {
                int m = below(3) == 0 ? below(23) - 1 : below(9);
                int y = below(4) == 0 ? anyYard() : model.roamed(roaming, m, false);
                due("seen(" + y + ", " + m + ")", x.seen(y, m), model.seen(y, m));
                askForSights();
                return 3;
            }
            case 40, 41 -> {
                due("forget()", x.forget(), model.forget());
                roaming = random.nextLong();
            }
            case 42, 43 -> askForSights();
            case 44, 45, 46 -> {
                int y = anyYard();
                int n = below(9) - 1;
                int part = below(20) == 0 ? 2 - 3 * below(2) : below(2);
                due("chance(" + y + ", " + n + ", " + part + ")", x.chance(y, n, part), model.chance(y, n, part));
            }
            case 47, 48 -> {
                int z = below(10) == 0 ? (below(2) == 0 ? -1 : 10000) : below(10000);
                int n = below(402);
                int what = below(20) == 0 ? 2 - 3 * below(2) : below(2);
                due("year(" + z + ", " + n + ", " + what + ")", x.year(z, n, what), model.year(z, n, what));
            }
            case 49, 50 -> due("keep()", x.keep(), model.keep());
            case 51, 52 -> due("back()", x.back(), model.back());
            case 53, 54 -> {
                int a = anyYard();
                int b = anyYard();
                due("far(" + a + ", " + b + ")", x.far(a, b), model.far(a, b));
            }
            case 55, 56 -> {
                int i = anyPerson();
                int what = below(3) == 0 ? -1 : below(10003) - 2;
                due("person(" + i + ", " + what + ")", x.person(i, what), model.person(i, what));
            }
            default -> {
                int what = below(10) - 1;
                due("count(" + what + ")", x.count(what), model.count(what));
            }
        }
        return 1;
    }

    private int anyYard() {
        return below(12) == 0 ? below(11) - 1 : below(Math.max(1, model.count(0)));
    }

    private int anyPerson() {
        return below(12) == 0 ? below(7) - 1 : below(Math.max(1, model.count(1)));
    }

    private void askForGoals() {
        due("price()", x.price(), model.price());
        due("first()", x.first(), model.first());
        due("bars()", x.bars(), model.bars());
    }

    private void askForSights() {
        due("how()", x.how(), model.how());
        int i = anyPerson();
        due("sure(" + i + ")", x.sure(i), model.sure(i));
    }

    private void playGame() {
        int n = below(20) == 0 ? 13 * below(2) : 1 + below(12);
        int y = below(2) == 0 ? anyYard() : model.roamed(random.nextLong(), n, true);
        int g = below(20) == 0 ? -1 : below((1 << model.count(1)) + (below(10) == 0 ? 1 : 0));
        int what = below(20) == 0 ? 2 - 3 * below(2) : below(2);
        String call = "game(" + n + ", " + y + ", " + g + ", " + what + ")";
        due(call, x.game(n, y, g, what), model.game(n, y, g, what));
    }
}
