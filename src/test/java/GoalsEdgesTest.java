/** Part 3 of the document, promises 12 to 17: each sentence that names an edge. */
public final class GoalsEdgesTest {
    private static final int BAD = -1, FULL = -3, NONE = -4;
    private static final int[] EXTREMES = {Integer.MIN_VALUE, Integer.MIN_VALUE + 1, Integer.MAX_VALUE - 1, Integer.MAX_VALUE};

    /** Eight YARDS in a ring; the one PERSON goes round it, a YARD each minute. */
    private static final String ROUND = "y8;l0,1;l1,2;l2,3;l3,4;l4,5;l5,6;l6,7;l7,0;p99;w01234567;";

    private final Checks checks = new Checks();

    public static void main(String[] args) {
        GoalsEdgesTest test = new GoalsEdgesTest();
        test.goalMinutes();
        test.goalYards();
        test.sixGoals();
        test.noGoals();
        test.fromNowOn();
        test.goalsStay();
        test.thisMinuteToo();
        test.notInTheLastMinute();
        test.priceWithoutGoals();
        test.priceNone();
        test.priceOfNought();
        test.priceAtMost();
        test.priceAtTheLeast();
        test.priceBehindTheLastMinute();
        test.firstNobody();
        test.firstTheLowest();
        test.firstOfTheCheapest();
        test.firstNoWay();
        test.barsNone();
        test.barsByMinute();
        test.barsToldFirst();
        test.barsOfSix();
        test.gameMinutes();
        test.gameYards();
        test.gamePersons();
        test.gameWhat();
        test.byTurns();
        test.whoHasTheLastTurn();
        test.winsWhateverTheOthersDo();
        test.feedsNobody();
        test.feedsTheLowest();
        test.gameOfAnyPersons();
        test.gameForgets();
        test.gameBehindTheLastMinute();
        test.askingChangesNothing();
        test.checks.end("GoalsEdgesTest");
    }

    private void due(String what, long got, long want) {
        checks.due(what, got, want);
    }

    private void answers(String when, FollowingCalf x, int price, int first, int bars) {
        due(when + ": price()", x.price(), price);
        due(when + ": first()", x.first(), first);
        due(when + ": bars()", x.bars(), bars);
    }

    private void goalMinutes() {
        checks.says("when m (0 to 40) minutes have gone by. BAD");
        for (int m = 0; m <= 40; m++) {
            due("goal(0, " + m + ")", new FollowingCalf().goal(0, m), 1);
        }
        FollowingCalf x = new FollowingCalf();
        for (int m : new int[] {-1, -2, 41, 42, 400}) {
            due("goal(0, " + m + ")", x.goal(0, m), BAD);
        }
        for (int m : EXTREMES) {
            due("goal(0, " + m + ")", x.goal(0, m), BAD);
        }
        due("none is told", x.count(3), 0);
        // It forgets a minute behind the one step that a feed is good for.
        FollowingCalf far = checks.laid("y2;f2;l0,1;p6;w01;");
        far.goal(0, 39);
        far.goal(1, 40);
        due("minute 40 is odd's, but it may stay there", far.price(), NONE);
        far.noGoals();
        far.goal(0, 38);
        far.goal(1, 40);
        due("fed at 38, at 1 from 39 on", far.price(), 6);
    }

    private void goalYards() {
        checks.says("A GOAL is a YARD. BAD (YARDS: such as there are)");
        for (int n = 2; n <= 8; n++) {
            FollowingCalf x = checks.laid("y" + n + ";p1;");
            due("goal(-1, 0)", x.goal(-1, 0), BAD);
            due("goal(" + n + ", 0)", x.goal(n, 0), BAD);
            for (int yard : EXTREMES) {
                due("goal(" + yard + ", 0)", x.goal(yard, 0), BAD);
            }
            due("none is told", x.count(3), 0);
            due("the first", x.goal(0, 0), 1);
            due("the last", x.goal(n - 1, 40), 2);
        }
    }

    private void sixGoals() {
        checks.says("6 GOALS at most. FULL");
        FollowingCalf x = checks.laid("l0,1;p3;w01;");
        for (int k = 1; k <= 6; k++) {
            due("goal " + k, x.goal(0, 0), k);
            due("how many", x.count(3), k);
        }
        due("a seventh", x.goal(1, 0), FULL);
        due("an eighth", x.goal(0, 0), FULL);
        due("BAD comes ahead of FULL", x.goal(4, 0), BAD);
        due("BAD comes ahead of FULL", x.goal(0, 41), BAD);
        due("six", x.count(3), 6);
        answers("the seventh is none", x, 0, NONE, NONE);
    }

    private void noGoals() {
        checks.says("No GOALS: how many there were");
        FollowingCalf x = new FollowingCalf();
        due("of none", x.noGoals(), 0);
        for (int many = 1; many <= 6; many++) {
            for (int k = 0; k < many; k++) {
                x.goal(1, 0);
            }
            due("it can not be", x.price(), NONE);
            due("of " + many, x.noGoals(), many);
            due("none", x.count(3), 0);
            answers("none", x, 0, NONE, NONE);
        }
        due("of none again", x.noGoals(), 0);
        due("room again", x.goal(0, 0), 1);
    }

    private void fromNowOn() {
        checks.says("they are taken from now on whenever one asks");
        FollowingCalf x = checks.laid("y2;l0,1;p5;w01;p7;w0;p8;w1;");
        x.goal(1, 1);
        answers("minute 0", x, 5, 0, NONE);
        x.pass(1);
        answers("minute 1: he comes back first", x, NONE, NONE, 0);
        x.pass(1);
        answers("minute 2", x, 5, 0, NONE);
        x.feed(0);
        answers("minute 2, fed", x, 0, NONE, NONE);
        x.pass(1);
        answers("minute 3, behind him", x, 8, 2, NONE);
        x.undo();
        answers("UNDONE", x, 0, NONE, NONE);
        x.undo();
        answers("UNDONE, not fed", x, 5, 0, NONE);
        Checks.at(x, 9998);
        answers("minute 9998", x, 5, 0, NONE);
    }

    private void goalsStay() {
        checks.says("GOALS (feed(), pass(), undo(), keep(), back(), write(), wipe() leave them)");
        FollowingCalf x = new FollowingCalf();
        x.goal(3, 3);
        x.goal(0, 0);
        x.keep();
        x.feed(0);
        x.pass(2);
        x.undo();
        x.back();
        x.write(1, 'p');
        x.wipe();
        x.seen(0, 0);
        x.forget();
        x.lay();
        due("GOALS", x.count(3), 2);
        answers("as told", x, 1, 0, NONE);
    }

    private void thisMinuteToo() {
        checks.says("Nobody or one PERSON feeds it in each minute, this one, too");
        FollowingCalf x = checks.laid("y2;l0,1;p5;w01;p7;w0;p8;w1;");
        x.goal(1, 1);
        answers("only this minute will do", x, 5, 0, NONE);
        x.feed(1);
        answers("though it was fed in it", x, 5, 0, NONE);
        x.noGoals();
        x.goal(1, 0);
        answers("this minute has begun", x, NONE, NONE, 0);
    }

    private void notInTheLastMinute() {
        checks.says("it should be (there) when m minutes have gone by (so feeds from then on are none)");
        FollowingCalf x = checks.laid("y2;l0,1;p0;w01;p0;w1;p0;w0;");
        x.goal(0, 0);
        answers("nobody need feed it at m 0", x, 0, NONE, NONE);
        x.goal(1, 0);
        answers("two YARDS at once", x, NONE, NONE, 1);
    }

    private void priceWithoutGoals() {
        checks.says("PRICE (of no GOALS)");
        FollowingCalf x = checks.laid("p9;w1;");
        answers("none told", x, 0, NONE, NONE);
        x.pass(5);
        answers("none told, later", x, 0, NONE, NONE);
    }

    private void priceNone() {
        checks.says("PRICE; none");
        FollowingCalf x = checks.laid("y3;l0,1;p1;w01;");
        x.goal(2, 40);
        answers("no LANE leads there", x, NONE, NONE, 0);
        x.noGoals();
        x.goal(1, 0);
        answers("not there now", x, NONE, NONE, 0);
        x.noGoals();
        x.goal(1, 2);
        answers("he is back by then", x, NONE, NONE, 0);
        x.noGoals();
        x.goal(1, 1);
        answers("he leads it", x, 1, 0, NONE);
    }

    private void priceOfNought() {
        checks.says("bread costs C (0 to 99): for nothing");
        FollowingCalf x = checks.laid("l0,1;p0;w01;p0;w01;");
        x.goal(1, 1);
        answers("it must be fed for nothing", x, 0, 0, NONE);
    }

    private void priceAtMost() {
        checks.says("PRICE: what bread costs together (99 in each of 40 minutes)");
        FollowingCalf x = checks.laid(ROUND + "f2;");
        for (int m : new int[] {40, 35, 28, 21, 14, 7}) {
            x.goal(m % 8, m);
        }
        answers("fed in every minute", x, 40 * 99, 0, NONE);
        FollowingCalf never = checks.laid(ROUND);
        for (int m : new int[] {40, 35, 28, 21, 14, 7}) {
            never.goal(m % 8, m);
        }
        answers("fed once, if it never FORGETS", never, 99, 0, NONE);
        FollowingCalf twenty = checks.laid(ROUND + "f20;");
        for (int m : new int[] {40, 35, 28, 21, 14, 7}) {
            twenty.goal(m % 8, m);
        }
        answers("fed at 0, 19 and 38 at the latest, if F is 20", twenty, 3 * 99, 0, NONE);
    }

    private void priceAtTheLeast() {
        checks.says("PRICE: .. at the least such that it is where each GOAL says");
        FollowingCalf x = checks.laid("y2;l0,1;p50;w01;p20;w0001;p29;w0;p99;w1;");
        x.goal(1, 1);
        answers("the dear one alone", x, 50, 0, NONE);
        x.noGoals();
        x.goal(1, 3);
        answers("the cheap one", x, 20, NONE, NONE);
        x.goal(0, 2);
        answers("the cheap one still", x, 20, NONE, NONE);
        x.goal(1, 1);
        answers("there and back and there", x, 50, 0, NONE);
        x.noGoals();
        x.goal(1, 1);
        x.goal(1, 2);
        answers("the dear one there, the dearest keeps it", x, 149, 0, NONE);
    }

    private void priceBehindTheLastMinute() {
        checks.says("A GOAL: m minutes from now on (from minute 9999, too)");
        FollowingCalf x = Checks.at(checks.laid("y2;l0,1;c1;p5;w01;"), 9999);
        x.goal(0, 1);
        answers("minute 10000", x, 5, 0, NONE);
        x.noGoals();
        x.goal(0, 39);
        answers("minute 10038", x, 5, NONE, NONE);
    }

    private void firstNobody() {
        checks.says("FIRST: nobody, if that can be so; none (nobody)");
        FollowingCalf x = checks.laid("y2;l0,1;p0;w0001;p0;w0;");
        x.goal(1, 3);
        answers("fed at 2 will do", x, 0, NONE, NONE);
        x.pass(1);
        x.noGoals();
        x.goal(1, 2);
        answers("a minute later, too", x, 0, NONE, NONE);
        x.pass(1);
        x.noGoals();
        x.goal(1, 1);
        answers("now he must", x, 0, 0, NONE);
    }

    private void firstTheLowest() {
        checks.says("FIRST: else the lowest who can");
        for (int lowest = 0; lowest < 5; lowest++) {
            StringBuilder text = new StringBuilder("y2;l0,1;");
            for (int i = 0; i < 5; i++) {
                text.append(i < lowest ? "p3;w0;" : "p3;w01;");
            }
            FollowingCalf x = checks.laid(text.toString());
            x.goal(1, 1);
            answers("the lowest who leads it there", x, 3, lowest, NONE);
        }
    }

    private void firstOfTheCheapest() {
        checks.says("FIRST: who feeds it this minute in such a way (the cheapest)");
        FollowingCalf x = checks.laid("y2;l0,1;p9;w01;p8;w01;p9;w01;p8;w01;");
        x.goal(1, 1);
        answers("not the lowest, but the lowest of the cheapest", x, 8, 1, NONE);
        FollowingCalf wait = checks.laid("y2;l0,1;p9;w0101;p3;w0001;");
        wait.goal(1, 3);
        answers("to wait is cheaper", wait, 3, NONE, NONE);
        FollowingCalf now = checks.laid("y2;l0,1;p3;w0011;p9;w0001;p3;w1110;");
        now.goal(1, 3);
        answers("the cheap one, later", now, 3, NONE, NONE);
        now.pass(1);
        now.noGoals();
        now.goal(1, 2);
        answers("the cheap one, now", now, 3, 0, NONE);
    }

    private void firstNoWay() {
        checks.says("FIRST: none (no way)");
        FollowingCalf x = checks.laid("y2;l0,1;p1;w01;");
        x.goal(1, 1);
        due("he can", x.first(), 0);
        x.goal(0, 1);
        due("no way", x.first(), NONE);
    }

    private void barsNone() {
        checks.says("BARS: none");
        FollowingCalf x = checks.laid("y2;l0,1;p1;w01;");
        due("no GOALS", x.bars(), NONE);
        x.goal(0, 0);
        due("it is so", x.bars(), NONE);
        x.goal(1, 1);
        due("it can be so", x.bars(), NONE);
        x.goal(1, 1);
        due("told twice", x.bars(), NONE);
    }

    private void barsByMinute() {
        checks.says("BARS: the first of the GOALS, by m");
        FollowingCalf x = checks.laid("y2;l0,1;p1;w01;");
        x.goal(1, 40);
        due("he is away at even minutes", x.bars(), 0);
        x.goal(1, 20);
        due("the earlier of two", x.bars(), 1);
        x.goal(1, 30);
        due("not one between them", x.bars(), 1);
        x.goal(1, 2);
        due("the earliest", x.bars(), 3);
        x.goal(1, 1);
        due("not one that can be", x.bars(), 3);
        x.goal(1, 0);
        due("at once", x.bars(), 5);
    }

    private void barsToldFirst() {
        checks.says("BARS: of several the one told first");
        FollowingCalf x = checks.laid("y3;l0,1;p1;w01;");
        x.goal(0, 5);
        x.goal(1, 3);
        x.goal(2, 3);
        x.goal(0, 3);
        x.goal(2, 3);
        due("the second at minute 3", x.bars(), 2);
        x.noGoals();
        x.goal(2, 3);
        x.goal(2, 3);
        x.goal(1, 3);
        due("the first at minute 3", x.bars(), 0);
        x.noGoals();
        x.goal(0, 0);
        x.goal(0, 0);
        x.goal(1, 0);
        due("the third at minute 0", x.bars(), 2);
    }

    private void barsOfSix() {
        checks.says("BARS: .. such that for it and all ahead of it there is no way");
        for (int barring = 0; barring < 6; barring++) {
            for (int way = 0; way < 2; way++) {
                FollowingCalf x = checks.laid("y3;l0,1;p1;w01;");
                for (int k = 0; k < 6; k++) {
                    int m = way == 0 ? 2 * k : 10 - 2 * k;
                    x.goal(k == barring ? 2 : 0, m);
                }
                answers("goal " + barring, x, NONE, NONE, barring);
            }
        }
        FollowingCalf pair = checks.laid("y2;l0,1;p1;w01;");
        pair.goal(1, 3);
        pair.goal(1, 1);
        due("each can be, and both", pair.bars(), NONE);
        pair.goal(1, 2);
        due("not with the one between", pair.bars(), 2);
        FollowingCalf apart = checks.laid("y2;l0,1;p1;w0100;");
        apart.goal(0, 3);
        apart.goal(1, 1);
        due("there and back", apart.bars(), NONE);
        apart.noGoals();
        apart.goal(1, 3);
        apart.goal(1, 1);
        due("the later one, told first, bars it", apart.bars(), 0);
    }

    private void gameMinutes() {
        checks.says("GAME of n (1 to 12) minutes. BAD");
        FollowingCalf x = checks.laid("p1;");
        for (int n = 1; n <= 12; n++) {
            due("game(" + n + ", 0, 1, 0)", x.game(n, 0, 1, 0), 1);
            due("game(" + n + ", 1, 1, 0)", x.game(n, 1, 1, 0), 0);
        }
        for (int n : new int[] {0, -1, 13, 14, 100}) {
            due("game(" + n + ", ..)", x.game(n, 0, 1, 0), BAD);
            due("game(" + n + ", ..)", x.game(n, 0, 1, 1), BAD);
        }
        for (int n : EXTREMES) {
            due("game(" + n + ", ..)", x.game(n, 0, 1, 0), BAD);
        }
        // He goes off in minute n alone, so that each n is told from the ones beside it.
        for (int n = 1; n <= 12; n++) {
            FollowingCalf once = checks.laid("y2;l0,1;p1;" + awayAt(n));
            for (int k = 1; k <= 12; k++) {
                due("he is away at " + n + ", GAME of " + k, once.game(k, 1, 1, 0), k == n ? 1 : 0);
            }
        }
    }

    /** A WAY at YARD 0 but for minute n (1 to 12), which is at YARD 1. */
    private static String awayAt(int n) {
        StringBuilder way = new StringBuilder("000000000000");
        way.setCharAt(n % 12, '1');
        return "w" + way + ";";
    }

    private void gameYards() {
        checks.says("GAME: YARD y. BAD (YARDS: such as there are)");
        for (int n = 2; n <= 8; n++) {
            FollowingCalf x = checks.laid("y" + n + ";c1;p1;");
            due("y -1", x.game(1, -1, 0, 0), BAD);
            due("y " + n, x.game(1, n, 0, 0), BAD);
            for (int y : EXTREMES) {
                due("y " + y, x.game(1, y, 0, 0), BAD);
            }
            for (int y = 0; y < n; y++) {
                due("y " + y, x.game(12, y, 1, 0), y == 1 ? 1 : 0);
            }
        }
    }

    private void gamePersons() {
        checks.says("GAME: PERSONS g (bits). BAD (PERSONS: such as there are)");
        StringBuilder text = new StringBuilder("y2;l0,1;");
        for (int many = 1; many <= 5; many++) {
            text.append("p1;w01;");
            FollowingCalf x = checks.laid(text.toString());
            due("nobody", x.game(1, 1, 0, 0), 0);
            for (int g = 1; g < 1 << many; g++) {
                due("g " + g, x.game(1, 1, g, 0), 1);
                due("g " + g, x.game(1, 1, g, 1), Integer.numberOfTrailingZeros(g));
            }
            for (int g : new int[] {-1, -2, 1 << many, (1 << many) + 1, 32, 33, 64, 256, 1 << 30}) {
                due("g " + g, x.game(1, 1, g, 0), BAD);
                due("g " + g, x.game(1, 1, g, 1), BAD);
            }
            for (int g : EXTREMES) {
                due("g " + g, x.game(1, 1, g, 0), BAD);
            }
        }
    }

    private void gameWhat() {
        checks.says("GAME: WINS (what = 0), FEEDS (1; NONE). BAD");
        FollowingCalf x = checks.laid("y2;l0,1;p1;w0;p1;w01;");
        due("WINS", x.game(1, 1, 2, 0), 1);
        due("FEEDS", x.game(1, 1, 2, 1), 1);
        for (int what : new int[] {-1, -2, 2, 3, Integer.MIN_VALUE, Integer.MAX_VALUE}) {
            due("what " + what, x.game(1, 1, 2, what), BAD);
        }
    }

    private void byTurns() {
        checks.says("in this minute, the next but one, .. nobody feeds it or one of g does, in the others nobody or one who is not of g");
        for (int n = 1; n <= 12; n++) {
            FollowingCalf x = checks.laid("y2;l0,1;p1;" + awayAt(n));
            due("his side, GAME of " + n, x.game(n, 1, 1, 0), 1);
            due("the others need not, GAME of " + n, x.game(n, 1, 0, 0), 0);
            due("the others have no turn in the first minute, GAME of " + n, x.game(n, 0, 0, 0), n == 1 ? 1 : 0);
            // He is not there at first when he is away at minute 12, which is 0, too.
            due("who must feed it now, GAME of " + n, x.game(n, 1, 1, 1), n <= 2 ? 0 : NONE);
        }
    }

    private void whoHasTheLastTurn() {
        checks.says("each as suits his side");
        for (int n = 1; n <= 12; n++) {
            FollowingCalf x = checks.laid("y2;l0,1;p1;" + awayAt(n) + "p1;w0;");
            due("leads it off in the last turn, GAME of " + n, x.game(n, 1, 1, 0), n % 2);
            due("keeps it in the last turn, GAME of " + n, x.game(n, 0, 2, 0), n % 2);
            due("both of one side to lead it off, GAME of " + n, x.game(n, 1, 3, 0), 1);
            due("both of one side to keep it, GAME of " + n, x.game(n, 0, 3, 0), 1);
            due("both of the others to lead it off, GAME of " + n, x.game(n, 0, 0, 0), n == 1 ? 1 : 0);
        }
    }

    private void winsWhateverTheOthersDo() {
        checks.says("WINS: 1, if they can, whatever the others do; 0");
        FollowingCalf x = checks.laid("y3;l0,1;l1,2;p1;w012;p1;w010;p1;w210;");
        due("alone", x.game(1, 1, 1, 0), 1);
        due("the others lead it back", x.game(2, 2, 1, 0), 0);
        due("they are of the side", x.game(2, 2, 7, 0), 1);
        due("those who could are of the side", x.game(2, 2, 3, 0), 0);
        due("one of them is left", x.game(2, 2, 5, 0), 0);
        x.feed(0);
        due("it follows him already", x.game(1, 1, 0, 0), 1);
        due("he has led it, they can spoil it", x.game(2, 2, 0, 0), 0);
    }

    private void feedsNobody() {
        checks.says("FEEDS: nobody, if that will do; none (nobody, or they can not)");
        FollowingCalf x = checks.laid("y2;l0,1;p1;w01;p1;w0;");
        due("it is there", x.game(1, 0, 3, 1), NONE);
        due("and they win", x.game(1, 0, 3, 0), 1);
        due("they can not", x.game(2, 1, 3, 1), NONE);
        due("and they do not win", x.game(2, 1, 3, 0), 0);
        x.feed(0);
        due("it follows him already", x.game(1, 1, 3, 1), NONE);
        due("and they win", x.game(1, 1, 3, 0), 1);
        due("PERSON 1 must keep it", x.game(1, 0, 3, 1), 1);
        due("he is not of the side", x.game(1, 0, 1, 1), NONE);
    }

    private void feedsTheLowest() {
        checks.says("FEEDS: else the lowest by whom it does");
        for (int lowest = 0; lowest < 5; lowest++) {
            StringBuilder text = new StringBuilder("y2;l0,1;");
            for (int i = 0; i < 5; i++) {
                text.append(i < lowest ? "p1;w0;" : "p1;w01;");
            }
            FollowingCalf x = checks.laid(text.toString());
            due("the lowest who leads it off", x.game(1, 1, 31, 1), lowest);
            due("the lowest of the side", x.game(1, 1, 24, 1), Math.max(lowest, 3));
            due("only those who are there", x.game(1, 1, 31 >> 5 - lowest, 1), NONE);
        }
    }

    /** Who leads it off and who keeps it may be any two of five, at any two of eight YARDS. */
    private void gameOfAnyPersons() {
        checks.says("GAME: PERSONS g (bits), each of them 0, 1, ..");
        for (int leads = 0; leads < 5; leads++) {
            for (int keeps = 0; keeps < 5; keeps++) {
                int home = (leads + 3 * keeps) % 8;
                int away = (home + 1 + leads) % 8;
                if (leads != keeps) {
                    lastTurnOf(leads, keeps, home, away);
                }
            }
        }
    }

    private void lastTurnOf(int leads, int keeps, int home, int away) {
        for (int n = 1; n <= 12; n++) {
            StringBuilder text = new StringBuilder("y8;c" + home + ";l" + home + "," + away + ";");
            for (int i = 0; i < 5; i++) {
                String leading = awayAt(n).replace('1', 'x').replace('0', (char) ('0' + home)).replace('x', (char) ('0' + away));
                text.append(i == leads ? "p1;" + leading : i == keeps ? "p1;w" + home + ";" : "p1;w" + (home + 7) % 8 + ";");
            }
            FollowingCalf x = checks.laid(text.toString());
            String when = leads + " leads it from " + home + " to " + away + ", " + keeps + " keeps it, GAME of " + n;
            due(when, x.game(n, away, 1 << leads, 0), n % 2);
            due(when + ", who leads", x.game(n, away, 1 << leads, 1), n == 1 ? leads : NONE);
            due(when + ", to keep it", x.game(n, home, 31 - (1 << leads), 0), n % 2);
            due(when + ", all of one side", x.game(n, away, 31, 0), 1);
        }
    }

    /** None but he can feed it, and that only in his turns, so where it is in the end can be told. */
    private void gameForgets() {
        checks.says("GAME (of a calf that FORGETS)");
        for (int f = 1; f <= 20; f++) {
            for (int ago = 0; ago < f; ago++) {
                FollowingCalf x = checks.laid("y2;l0,1;f" + f + ";p1;w01;");
                x.feed(0);
                if (ago > 0) {
                    x.pass(ago);
                }
                int then = x.calf(1, 0);
                String when = "F " + f + ", fed " + ago + " ago";
                due(when + ": it is there", x.game(1, then, 0, 0), 1);
                due(when + ": it is not there", x.game(1, 1 - then, 0, 0), 0);
                boolean stays = ago + 1 >= f;
                due(when + ": he can lead it on", x.game(1, (ago + 1) % 2, 1, 0), f > 1 || ago % 2 == 1 ? 1 : 0);
                due(when + ": by feeding it", x.game(1, (ago + 1) % 2, 1, 1), stays && f > 1 ? 0 : NONE);
                due(when + ": nobody need keep it", x.game(1, ago % 2, 1, 0), stays ? 1 : 0);
            }
        }
        FollowingCalf one = checks.laid("y2;l0,1;f1;p1;w01;");
        FollowingCalf two = checks.laid("y2;l0,1;f2;p1;w01;");
        for (int n = 1; n <= 12; n++) {
            due("F 1: it never goes, GAME of " + n, one.game(n, 1, 1, 0), 0);
            due("F 1: it stays, GAME of " + n, one.game(n, 0, 1, 0), 1);
            due("F 2: led there in this minute and left there, GAME of " + n, two.game(n, 1, 1, 0), 1);
            due("F 2: never fed, GAME of " + n, two.game(n, 0, 1, 1), NONE);
            due("F 2: the others never have it, GAME of " + n, two.game(n, 0, 0, 0), 1);
        }
    }

    private void gameBehindTheLastMinute() {
        checks.says("GAME of n minutes (from minute 9999, too)");
        FollowingCalf x = Checks.at(checks.laid("y2;l0,1;c1;p1;w01;"), 9999);
        due("minute 10000", x.game(1, 0, 1, 0), 1);
        due("minute 10000, who", x.game(1, 0, 1, 1), 0);
        due("minute 10011", x.game(12, 0, 1, 0), 0);
    }

    private void askingChangesNothing() {
        checks.says("whenever one asks (nothing changes by it)");
        FollowingCalf x = checks.laid("y2;f3;l0,1;p5;w01;p1;w0;");
        x.feed(0);
        x.goal(1, 1);
        x.goal(1, 7);
        for (int k = 0; k < 3; k++) {
            answers("asked again", x, 5, NONE, NONE);
            due("game", x.game(5, 1, 1, 0), 1);
        }
        due("minute", x.count(2), 0);
        due("whom it follows", x.calf(2, 1), 0);
        due("it FORGETS as ever", x.calf(3, 1), NONE);
        due("UNDONE", x.count(5), 1);
        due("GOALS", x.count(3), 2);
        due("how often it was fed", x.feed(0), 2);
    }
}
