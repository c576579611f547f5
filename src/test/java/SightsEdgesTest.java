/** Part 4 of the document, promises 18 to 21: each sentence that names an edge. */
public final class SightsEdgesTest {
    private static final int BAD = -1, FULL = -3;
    private static final int[] EXTREMES = {Integer.MIN_VALUE, Integer.MIN_VALUE + 1, Integer.MAX_VALUE - 1, Integer.MAX_VALUE};

    private final Checks checks = new Checks();

    public static void main(String[] args) {
        SightsEdgesTest test = new SightsEdgesTest();
        test.sightMinutes();
        test.sightYards();
        test.sixSights();
        test.forget();
        test.sightsStay();
        test.whenTheMinuteBegan();
        test.fromTheBeginning();
        test.oneWithoutSights();
        test.aheadOfTheLastTold();
        test.whoWasAtItsYard();
        test.howAtMost();
        test.howNone();
        test.allSightsAreSo();
        test.howForgets();
        test.sureWithoutWays();
        test.sureInEachOfThem();
        test.sureBad();
        test.askingChangesNothing();
        test.checks.end("SightsEdgesTest");
    }

    private void due(String what, long got, long want) {
        checks.due(what, got, want);
    }

    private static long power(long base, int times) {
        long power = 1;
        for (int k = 0; k < times; k++) {
            power *= base;
        }
        return power;
    }

    private void sightMinutes() {
        checks.says("when minute m (0 to 20) began. BAD");
        for (int m = 0; m <= 20; m++) {
            due("seen(0, " + m + ")", new FollowingCalf().seen(0, m), 1);
        }
        FollowingCalf x = new FollowingCalf();
        for (int m : new int[] {-1, -2, 21, 22, 40, 9999}) {
            due("seen(0, " + m + ")", x.seen(0, m), BAD);
        }
        for (int m : EXTREMES) {
            due("seen(0, " + m + ")", x.seen(0, m), BAD);
        }
        due("none is told", x.count(4), 0);
    }

    private void sightYards() {
        checks.says("A SIGHT is a YARD. BAD (YARDS: such as there are)");
        for (int n = 2; n <= 8; n++) {
            FollowingCalf x = checks.laid("y" + n + ";p1;");
            due("seen(-1, 0)", x.seen(-1, 0), BAD);
            due("seen(" + n + ", 0)", x.seen(n, 0), BAD);
            for (int yard : EXTREMES) {
                due("seen(" + yard + ", 0)", x.seen(yard, 0), BAD);
            }
            due("none is told", x.count(4), 0);
            due("the first", x.seen(0, 0), 1);
            due("the last", x.seen(n - 1, 20), 2);
        }
    }

    private void sixSights() {
        checks.says("A SIGHT (6 at most). FULL");
        FollowingCalf x = checks.laid("p1;");
        for (int k = 1; k <= 6; k++) {
            due("sight " + k, x.seen(0, 2), k);
            due("how many", x.count(4), k);
        }
        due("a seventh", x.seen(1, 0), FULL);
        due("a seventh, later", x.seen(0, 20), FULL);
        due("BAD comes ahead of FULL", x.seen(4, 0), BAD);
        due("BAD comes ahead of FULL", x.seen(0, 21), BAD);
        due("six", x.count(4), 6);
        due("the seventh is none", x.how(), 4);
    }

    private void forget() {
        checks.says("No SIGHTS: how many there were");
        FollowingCalf x = new FollowingCalf();
        due("of none", x.forget(), 0);
        for (int many = 1; many <= 6; many++) {
            for (int k = 0; k < many; k++) {
                x.seen(1, 0);
            }
            due("it can not be", x.how(), 0);
            due("of " + many, x.forget(), many);
            due("none", x.count(4), 0);
            due("none: how()", x.how(), 1);
        }
        due("of none again", x.forget(), 0);
        due("room again", x.seen(0, 0), 1);
    }

    private void sightsStay() {
        checks.says("SIGHTS (feed(), pass(), undo(), keep(), back(), write(), wipe() leave them)");
        FollowingCalf x = new FollowingCalf();
        x.seen(3, 3);
        x.seen(0, 0);
        x.keep();
        x.feed(0);
        x.pass(2);
        x.undo();
        x.back();
        x.write(1, 'p');
        x.wipe();
        x.goal(0, 0);
        x.noGoals();
        x.lay();
        due("SIGHTS", x.count(4), 2);
        due("as told", x.how(), 4);
        due("as told", x.sure(0), 1);
    }

    private void whenTheMinuteBegan() {
        checks.says("a YARD at which it was when minute m began");
        for (int yard = 0; yard < 4; yard++) {
            FollowingCalf x = checks.laid("c2;p1;w2;");
            x.seen(yard, 0);
            due("minute 0, YARD " + yard, x.how(), yard == 2 ? 1 : 0);
        }
        FollowingCalf y = checks.laid("l0,1;p1;w01;");
        y.seen(1, 1);
        due("fed in minute 0", y.how(), 1);
        due("it must have been", y.sure(0), 1);
        y.forget();
        y.seen(0, 1);
        due("not fed in minute 0", y.how(), 1);
        due("it was not", y.sure(0), 0);
    }

    private void fromTheBeginning() {
        checks.says("From the beginning, as LAID");
        FollowingCalf x = checks.laid("l0,1;p1;w01;");
        x.seen(1, 1);
        x.feed(0);
        due("whatever it was fed", x.how(), 1);
        x.pass(2);
        due("whatever the minute is", x.how(), 1);
        due("who must have", x.sure(0), 1);
        Checks.at(x, 9999);
        due("at minute 9999", x.how(), 1);
        x.forget();
        x.seen(0, 0);
        due("where it was at first", x.how(), 1);
    }

    private void oneWithoutSights() {
        checks.says("1 without SIGHTS");
        for (String text : new String[] {"p1;", "p1;w1;", "p1;p1;p1;p1;p1;", "y8;c7;f1;p1;"}) {
            FollowingCalf x = checks.laid(text);
            due("how() of " + text, x.how(), 1);
            x.pass(9);
            due("how() of " + text + ", later", x.how(), 1);
        }
    }

    private void aheadOfTheLastTold() {
        checks.says("in each minute ahead of the last that is told of in SIGHTS");
        for (int m = 0; m <= 20; m++) {
            FollowingCalf x = checks.laid("p1;");
            x.seen(0, m);
            due("one who is there, minute " + m, x.how(), 1L << m);
            x.seen(0, m / 2);
            due("and one ahead of it", x.how(), 1L << m);
            x.seen(0, 0);
            due("and the beginning", x.how(), 1L << m);
        }
        FollowingCalf y = checks.laid("p1;");
        y.seen(0, 3);
        y.seen(0, 20);
        y.seen(0, 7);
        due("the last by minute, not as told", y.how(), 1L << 20);
    }

    private void whoWasAtItsYard() {
        checks.says("nobody or one who was at its YARD fed it");
        FollowingCalf x = checks.laid("p1;w1;p1;w1;");
        x.seen(0, 20);
        due("nobody was there", x.how(), 1);
        FollowingCalf y = checks.laid("p1;w000000000001;");
        y.seen(0, 11);
        due("there until minute 10", y.how(), 1L << 11);
        y.forget();
        y.seen(0, 12);
        due("away in minute 11", y.how(), 1L << 11);
        y.forget();
        y.seen(0, 13);
        due("back in minute 12", y.how(), 1L << 12);
    }

    private void howAtMost() {
        checks.says("in HOW many ways (of 5 PERSONS in 20 minutes)");
        StringBuilder text = new StringBuilder();
        for (int many = 1; many <= 5; many++) {
            text.append("p1;");
            for (String forgets : new String[] {"", "f1;", "f20;"}) {
                FollowingCalf x = checks.laid(text + forgets);
                for (int m : new int[] {1, 2, 19, 20}) {
                    x.forget();
                    x.seen(0, m);
                    due(many + " in " + m + " minutes", x.how(), power(many + 1, m));
                }
            }
        }
        due("beyond an int", power(6, 20), 3656158440062976L);
    }

    private void howNone() {
        checks.says("in HOW many ways (none)");
        FollowingCalf x = checks.laid("y3;l0,1;p1;w01;");
        x.seen(2, 20);
        due("no LANE leads there", x.how(), 0);
        due("who must have", x.sure(0), 0);
        x.forget();
        x.seen(1, 0);
        due("not there at first", x.how(), 0);
        x.forget();
        x.seen(0, 5);
        x.seen(1, 5);
        due("two YARDS at once", x.how(), 0);
    }

    private void allSightsAreSo() {
        checks.says("so that all SIGHTS are so");
        for (int wrong = 0; wrong < 6; wrong++) {
            FollowingCalf x = checks.laid("y3;l0,1;p1;w01;");
            for (int k = 0; k < 6; k++) {
                x.seen(k == wrong ? 2 : 0, 2 * k);
            }
            due("sight " + wrong + " is not so", x.how(), 0);
        }
        // Fed at 0 it is at 1 in odd minutes; there he may feed it or not, all the same.
        FollowingCalf x = checks.laid("y2;l0,1;p1;w01;");
        x.seen(1, 1);
        due("minute 1", x.how(), 1);
        x.seen(0, 2);
        due("and minute 2", x.how(), 2);
        x.seen(1, 3);
        due("and minute 3", x.how(), 4);
        x.seen(0, 4);
        due("and minute 4", x.how(), 8);
        x.seen(1, 4);
        due("not so", x.how(), 0);
    }

    private void howForgets() {
        checks.says("in HOW many ways (by a calf that FORGETS)");
        // With F 2 a feed is good for one step: at 0 in minute 0 and 2, it is at 1 in 1 and 3.
        FollowingCalf x = checks.laid("y2;f2;l0,1;p1;w01;");
        x.seen(1, 1);
        due("fed in minute 0", x.how(), 1);
        x.seen(1, 2);
        due("it FORGETS in minute 2, if not fed in 1", x.how(), 1);
        x.forget();
        x.seen(1, 1);
        x.seen(0, 2);
        due("fed in minute 1, too", x.how(), 1);
        FollowingCalf one = checks.laid("y2;f1;l0,1;p1;w01;");
        one.seen(1, 1);
        due("with F 1 it never goes", one.how(), 0);
        one.forget();
        one.seen(0, 20);
        due("with F 1, fed or not in ten minutes", one.how(), 1L << 10);
    }

    private void sureWithoutWays() {
        checks.says("SURE of a PERSON: 1, if there are such ways (0 else)");
        FollowingCalf x = checks.laid("y3;l0,1;p1;w01;");
        due("without SIGHTS nobody fed it", x.sure(0), 0);
        x.seen(0, 0);
        due("nor ahead of minute 0", x.sure(0), 0);
        x.forget();
        x.seen(1, 1);
        due("there is one way", x.sure(0), 1);
        x.seen(2, 1);
        due("there is none", x.sure(0), 0);
    }

    private void sureInEachOfThem() {
        checks.says("and in each of them he fed it; 0");
        StringBuilder text = new StringBuilder("y2;l0,1;");
        for (int many = 1; many <= 5; many++) {
            text.append("p1;w01;");
            FollowingCalf x = checks.laid(text.toString());
            x.seen(1, 1);
            due("in as many ways", x.how(), many);
            for (int i = 0; i < many; i++) {
                due("one of " + many, x.sure(i), many == 1 ? 1 : 0);
            }
        }
        FollowingCalf both = checks.laid("y3;l0,1;l1,2;p1;w012;p1;w100;p1;w011;");
        both.seen(1, 1);
        due("either 0 or 2", both.how(), 2);
        both.seen(2, 2);
        due("0 in the end", both.sure(0), 1);
        due("not 1, who is not there", both.sure(1), 0);
        due("2 need not", both.sure(2), 0);
        FollowingCalf only = checks.laid("p1;");
        only.seen(0, 20);
        due("all ways but one are not each", only.sure(0), 0);
    }

    private void sureBad() {
        checks.says("sure: BAD (PERSONS: such as there are)");
        StringBuilder text = new StringBuilder("y2;l0,1;");
        for (int many = 1; many <= 5; many++) {
            text.append("p1;w01;");
            FollowingCalf x = checks.laid(text.toString());
            for (int told = 0; told < 3; told++) {
                due("sure(-1)", x.sure(-1), BAD);
                due("sure(" + many + ")", x.sure(many), BAD);
                for (int i : EXTREMES) {
                    due("sure(" + i + ")", x.sure(i), BAD);
                }
                due("the last of them is none", x.sure(many - 1), many == 1 && told == 1 ? 1 : 0);
                x.seen(told == 0 ? 1 : 0, 1);
            }
        }
    }

    private void askingChangesNothing() {
        checks.says("HOW many ways (nothing changes by asking)");
        FollowingCalf x = checks.laid("y2;f3;l0,1;p5;w01;");
        x.pass(2);
        x.feed(0);
        x.seen(1, 1);
        x.seen(0, 2);
        for (int k = 0; k < 3; k++) {
            due("how()", x.how(), 2);
            due("sure(0)", x.sure(0), 1);
        }
        due("minute", x.count(2), 2);
        due("whom it follows", x.calf(2, 1), 0);
        due("it FORGETS as ever", x.calf(3, 1), -4);
        due("UNDONE", x.count(5), 2);
        due("SIGHTS", x.count(4), 2);
        due("how often it was fed", x.feed(0), 2);
    }
}
