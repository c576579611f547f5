import java.math.BigInteger;

/** Part 4 of the document, promises 22 to 26: each sentence that names an edge. */
public final class ChanceEdgesTest {
    private static final int BAD = -1, NO = -2, FULL = -3, NONE = -4;
    private static final int[] EXTREMES = {Integer.MIN_VALUE, Integer.MIN_VALUE + 1, Integer.MAX_VALUE - 1, Integer.MAX_VALUE};
    private static final int[] YEARS = {0, 1, 2, 77, 5000, 9998, 9999};
    private static final int[] LENGTHS = {1, 2, 3, 8, 9, 200, 399, 400};

    private final Checks checks = new Checks();

    public static void main(String[] args) {
        ChanceEdgesTest test = new ChanceEdgesTest();
        test.chanceMinutes();
        test.chanceYards();
        test.chancePart();
        test.ifAnyAreAtItsYard();
        test.oneOfTwoCases();
        test.alikeLikely();
        test.inLowestTerms();
        test.chanceOfSix();
        test.together();
        test.fromNowOn();
        test.yearDraws();
        test.yearMinutes();
        test.yearWhat();
        test.yearDrawIsTold();
        test.yearWhoIsDrawn();
        test.yearLeadsIt();
        test.yearMinuteByMinute();
        test.yearForgets();
        test.yearFromTheBeginning();
        test.keepTwo();
        test.keepWhat();
        test.backAsKeptLast();
        test.backNothingUndone();
        test.backNo();
        test.keepLeavesUndone();
        test.countWhat();
        test.countBad();
        test.checks.end("ChanceEdgesTest");
    }

    private void due(String what, long got, long want) {
        checks.due(what, got, want);
    }

    private void share(String when, FollowingCalf x, int yard, int n, long above, long below) {
        due(when + ": chance(" + yard + ", " + n + ", 0)", x.chance(yard, n, 0), above);
        due(when + ": chance(" + yard + ", " + n + ", 1)", x.chance(yard, n, 1), below);
    }

    private void chanceMinutes() {
        checks.says("when n (0 to 6) minutes have gone by. BAD");
        FollowingCalf x = checks.laid("p1;w1;");
        for (int n = 0; n <= 6; n++) {
            share("it stays", x, 0, n, 1, 1);
            share("it stays", x, 3, n, 0, 1);
        }
        for (int n : new int[] {-1, -2, 7, 8, 400}) {
            due("above, n " + n, x.chance(0, n, 0), BAD);
            due("below, n " + n, x.chance(0, n, 1), BAD);
        }
        for (int n : EXTREMES) {
            due("n " + n, x.chance(0, n, 1), BAD);
        }
    }

    private void chanceYards() {
        checks.says("the chance that it is at a YARD. BAD (YARDS: such as there are)");
        for (int n = 2; n <= 8; n++) {
            FollowingCalf x = checks.laid("y" + n + ";c1;p1;");
            due("yard -1", x.chance(-1, 0, 0), BAD);
            due("yard " + n, x.chance(n, 0, 0), BAD);
            due("yard " + n + ", below", x.chance(n, 6, 1), BAD);
            for (int yard : EXTREMES) {
                due("yard " + yard, x.chance(yard, 0, 1), BAD);
            }
            for (int yard = 0; yard < n; yard++) {
                share("now", x, yard, 0, yard == 1 ? 1 : 0, 1);
                share("then", x, yard, 6, yard == 1 ? 1 : 0, 1);
            }
        }
    }

    private void chancePart() {
        checks.says("above (part = 0), below (1). BAD");
        FollowingCalf x = checks.laid("y2;l0,1;p1;w0;p1;w01;");
        due("above", x.chance(1, 1, 0), 1);
        due("below", x.chance(1, 1, 1), 4);
        for (int part : new int[] {-1, -2, 2, 3, Integer.MIN_VALUE, Integer.MAX_VALUE}) {
            due("part " + part, x.chance(1, 1, part), BAD);
            due("part " + part, x.chance(1, 0, part), BAD);
        }
    }

    private void ifAnyAreAtItsYard() {
        checks.says("By CHANCE it is fed in each minute from now on, if any are at its YARD");
        FollowingCalf x = checks.laid("y2;l0,1;p1;w01;");
        share("fed in minute 0", x, 1, 1, 1, 2);
        share("back by minute 2", x, 1, 2, 0, 1);
        share("fed in minute 0 or 2", x, 1, 3, 3, 4);
        share("back by minute 4", x, 1, 4, 0, 1);
        share("fed in minute 0, 2 or 4", x, 1, 5, 7, 8);
        share("back by minute 6", x, 0, 6, 1, 1);
        x.pass(1);
        share("he is not there in minute 1", x, 0, 1, 1, 1);
        share("he is there in minute 2", x, 0, 2, 1, 2);
    }

    /** A WAY at YARD 0 but for minute n, which is at YARD 1. */
    private static String awayAt(int n) {
        StringBuilder way = new StringBuilder("000000000000");
        way.setCharAt(n, '1');
        return "p1;w" + way + ";";
    }

    private void oneOfTwoCases() {
        checks.says("in one of two cases, .. in the other case by nobody");
        for (int n = 1; n <= 6; n++) {
            FollowingCalf x = checks.laid("y2;l0,1;" + awayAt(n));
            share("fed at least once", x, 1, n, (1L << n) - 1, 1L << n);
            share("never fed", x, 0, n, 1, 1L << n);
            x.feed(0);
            share("it follows him already", x, 1, n, 1, 1);
        }
    }

    private void alikeLikely() {
        checks.says("by one of these, each of them alike likely");
        StringBuilder stay = new StringBuilder("y2;l0,1;");
        for (int many = 1; many <= 5; many++) {
            for (int n = 1; n <= 6; n++) {
                FollowingCalf x = checks.laid(stay + awayAt(n));
                long all = many * (1L << n);
                long led = (1L << n) - 1;
                long shared = BigInteger.valueOf(all).gcd(BigInteger.valueOf(led)).longValueExact();
                share("the last of " + many + " who fed it leads it", x, 1, n, led / shared, all / shared);
                share("the others keep it", x, 0, n, (all - led) / shared, all / shared);
            }
            stay.append("p1;w0;");
        }
        FollowingCalf some = checks.laid("y2;l0,1;p1;w01;p1;w1;p1;w1;");
        share("only those who are there", some, 1, 1, 1, 2);
    }

    private void inLowestTerms() {
        checks.says("in lowest terms");
        StringBuilder text = new StringBuilder("y2;l0,1;");
        for (int many = 1; many <= 5; many++) {
            text.append("p1;w01;");
            FollowingCalf x = checks.laid(text.toString());
            share("any of " + many, x, 1, 1, 1, 2);
            share("none of " + many, x, 0, 1, 1, 2);
            share("it is sure", x, 0, 2, 1, 1);
            share("it can not be", x, 1, 2, 0, 1);
        }
    }

    private void chanceOfSix() {
        checks.says("n (0 to 6) minutes (at the most)");
        FollowingCalf x = checks.laid("y8;l0,1;l1,2;l2,3;l3,4;l4,5;l5,6;l6,7;p1;w0123456;");
        for (int n = 0; n <= 6; n++) {
            share("led from the first minute on", x, n, n, 1, n == 0 ? 1 : 2);
        }
        share("not fed in minute 0, so never", x, 0, 6, 1, 2);
        // With F 2 it must be fed in every minute.
        FollowingCalf y = checks.laid("f2;y8;l0,1;l1,2;l2,3;l3,4;l4,5;l5,6;l6,7;p1;w0123456;");
        for (int n = 0; n <= 6; n++) {
            share("fed in each of " + n, y, n, n, 1, 1L << n);
            if (n < 6) {
                share("left there", y, n, 6, 1, 2L << n);
            }
        }
    }

    private void together() {
        checks.says("the chance that it is at a YARD (at one of them for sure)");
        String[] farms = {
            "y8;l0,1;l1,2;l2,3;l3,4;l4,5;l5,6;l6,7;l7,0;p1;w0123;p1;w01;p1;w0;p1;w0765;p1;w07;f3;",
            "y5;l0,1;l0,2;l0,3;l0,4;p1;w01;p1;w02;p1;w03;p1;w04;p1;w0;", "p1;w0;p1;w0;p1;w0;", "l0,1;l1,2;l2,3;p1;w0123;p2;w3;"
        };
        for (String farm : farms) {
            FollowingCalf x = checks.laid(farm);
            for (int n = 0; n <= 6; n++) {
                BigInteger above = BigInteger.ZERO;
                BigInteger below = BigInteger.ONE;
                for (int yard = 0; yard < x.count(0); yard++) {
                    BigInteger a = BigInteger.valueOf(x.chance(yard, n, 0));
                    BigInteger b = BigInteger.valueOf(x.chance(yard, n, 1));
                    checks.due("in lowest terms", a.gcd(b).equals(BigInteger.ONE));
                    checks.due("no less than 0", a.signum() >= 0 && b.signum() > 0);
                    above = above.multiply(b).add(a.multiply(below));
                    below = below.multiply(b);
                }
                checks.due("all YARDS together, n " + n + " of " + farm, above.equals(below));
            }
        }
    }

    private void fromNowOn() {
        checks.says("By CHANCE .. from now on (from minute 9999, too)");
        FollowingCalf x = Checks.at(checks.laid("y2;l0,1;c1;p1;w01;"), 9999);
        share("minute 10000", x, 0, 1, 1, 2);
        share("now", x, 1, 0, 1, 1);
        x.feed(0);
        share("minute 10000, fed", x, 0, 1, 1, 1);
        due("nothing changes by asking", x.count(2), 9999);
        due("nothing changes by asking", x.calf(0, 1), 0);
        due("nothing changes by asking", x.feed(0), 2);
    }

    private static int draw(int z, int k) {
        BigInteger x = BigInteger.valueOf(7919).multiply(BigInteger.valueOf(z))
                .add(BigInteger.valueOf(6151).multiply(BigInteger.valueOf(k))).add(BigInteger.ONE);
        return x.pow(2).mod(BigInteger.valueOf(65521)).intValueExact();
    }

    private static boolean isOdd(int z, int k) {
        return draw(z, k) / 8 % 2 == 1;
    }

    private void yearDraws() {
        checks.says("A YEAR by z (0 to 9999). BAD");
        FollowingCalf x = checks.laid("p1;");
        for (int z : YEARS) {
            due("z " + z, x.year(z, 1, 0), isOdd(z, 0) ? 1 : 0);
            due("z " + z, x.year(z, 1, 1), 0);
        }
        for (int z : new int[] {-1, -2, 10000, 10001, 65521}) {
            due("z " + z, x.year(z, 1, 0), BAD);
            due("z " + z, x.year(z, 400, 1), BAD);
        }
        for (int z : EXTREMES) {
            due("z " + z, x.year(z, 1, 0), BAD);
        }
    }

    private void yearMinutes() {
        checks.says("of n (1 to 400) minutes. BAD");
        FollowingCalf x = checks.laid("p1;");
        int often = 0;
        for (int n = 1; n <= 400; n++) {
            often += isOdd(9999, n - 1) ? 1 : 0;
            due("n " + n, x.year(9999, n, 0), often);
        }
        for (int n : new int[] {0, -1, -400, 401, 402, 9999}) {
            due("n " + n, x.year(0, n, 0), BAD);
            due("n " + n, x.year(0, n, 1), BAD);
        }
        for (int n : EXTREMES) {
            due("n " + n, x.year(0, n, 0), BAD);
        }
    }

    private void yearWhat() {
        checks.says("how often (what = 0), the YARD (1). BAD");
        FollowingCalf x = checks.laid("c3;p1;w3;");
        due("how often", x.year(0, 2, 0), 1);
        due("the YARD", x.year(0, 2, 1), 3);
        for (int what : new int[] {-1, -2, 2, 3, Integer.MIN_VALUE, Integer.MAX_VALUE}) {
            due("what " + what, x.year(0, 2, what), BAD);
        }
    }

    private void yearDrawIsTold() {
        checks.says("in minute k, DRAW being (x times x) modulo 65521, x 7919 z, 6151 k and 1 together, .. (DRAW by 8, cut) is odd");
        // x is 1, DRAW 1, by 8 it is 0; then 6152, 41487 and 5185; then 12303, 10299 and 1287.
        due("DRAW of minute 0", draw(0, 0), 1);
        due("DRAW of minute 1", draw(0, 1), 41487);
        due("DRAW of minute 2", draw(0, 2), 10299);
        FollowingCalf x = checks.laid("p1;");
        due("not in minute 0", x.year(0, 1, 0), 0);
        due("in minute 1", x.year(0, 2, 0), 1);
        due("in minute 2", x.year(0, 3, 0), 2);
        for (int z : YEARS) {
            int often = 0;
            for (int k = 0; k < 400; k++) {
                often += isOdd(z, k) ? 1 : 0;
            }
            due("z " + z, x.year(z, 400, 0), often);
        }
    }

    private void yearWhoIsDrawn() {
        checks.says("PERSON DRAW modulo how many there are feeds it, if he is at its YARD");
        for (int many = 1; many <= 5; many++) {
            for (int there = 0; there < many; there++) {
                StringBuilder text = new StringBuilder();
                for (int i = 0; i < many; i++) {
                    text.append(i == there ? "p1;" : "p1;w1;");
                }
                FollowingCalf x = checks.laid(text.toString());
                for (int z : YEARS) {
                    int often = 0;
                    for (int k = 0; k < 400; k++) {
                        often += isOdd(z, k) && draw(z, k) % many == there ? 1 : 0;
                    }
                    due("only " + there + " of " + many + " is there, z " + z, x.year(z, 400, 0), often);
                }
            }
        }
    }

    /** Once he has fed it, it goes round with him: all odd DRAWS feed it from then on. */
    private void yearLeadsIt() {
        checks.says("its YARD when the n minutes have gone by");
        FollowingCalf x = checks.laid("y8;l0,1;l1,2;l2,3;l3,4;l4,5;l5,6;l6,7;l7,0;p1;w01234567;");
        for (int z : YEARS) {
            for (int n : LENGTHS) {
                boolean follows = false;
                int often = 0;
                for (int k = 0; k < n; k++) {
                    follows |= k % 8 == 0 && isOdd(z, k);
                    often += follows && isOdd(z, k) ? 1 : 0;
                }
                due("how often, z " + z + ", n " + n, x.year(z, n, 0), often);
                due("the YARD, z " + z + ", n " + n, x.year(z, n, 1), follows ? n % 8 : 0);
            }
        }
    }

    /** He is away in every other minute, so that one minute is not taken for the next. */
    private void yearMinuteByMinute() {
        checks.says("in minute k, .. PERSON .. feeds it, if he is at its YARD (then)");
        FollowingCalf x = checks.laid("y2;l0,1;p1;w01;");
        for (int z : YEARS) {
            for (int n : LENGTHS) {
                boolean follows = false;
                int often = 0;
                for (int k = 0; k < n; k++) {
                    follows |= k % 2 == 0 && isOdd(z, k);
                    often += follows && isOdd(z, k) ? 1 : 0;
                }
                due("how often, z " + z + ", n " + n, x.year(z, n, 0), often);
                due("the YARD, z " + z + ", n " + n, x.year(z, n, 1), follows ? n % 2 : 0);
            }
        }
    }

    /** With F 1 it never goes, so he feeds it in even minutes alone; with F 2 a feed is good for one step. */
    private void yearForgets() {
        checks.says("A YEAR (of a calf that FORGETS)");
        FollowingCalf one = checks.laid("y2;l0,1;f1;p1;w01;");
        FollowingCalf two = checks.laid("y2;l0,1;f2;p1;w01;");
        for (int z : YEARS) {
            int oftenOne = 0;
            int oftenTwo = 0;
            int yard = 0;
            for (int k = 0; k < 400; k++) {
                oftenOne += k % 2 == 0 && isOdd(z, k) ? 1 : 0;
                if (yard == k % 2 && isOdd(z, k)) {
                    oftenTwo++;
                    yard = 1 - yard;
                }
            }
            due("F 1: how often, z " + z, one.year(z, 400, 0), oftenOne);
            due("F 1: the YARD, z " + z, one.year(z, 400, 1), 0);
            due("F 2: how often, z " + z, two.year(z, 400, 0), oftenTwo);
            due("F 2: the YARD, z " + z, two.year(z, 400, 1), yard);
        }
    }

    private void yearFromTheBeginning() {
        checks.says("A YEAR .. from the beginning, as LAID");
        FollowingCalf x = checks.laid("y2;l0,1;c1;f3;p1;w10;p1;w1;");
        int often = x.year(5, 400, 0);
        int yard = x.year(5, 400, 1);
        x.feed(0);
        x.pass(2);
        x.feed(0);
        x.pass(2);
        due("how often", x.year(5, 400, 0), often);
        due("the YARD", x.year(5, 400, 1), yard);
        due("nothing changes: minute", x.count(2), 4);
        due("nothing changes: UNDONE", x.count(5), 4);
        due("nothing changes: whom it follows", x.calf(0, 1), 0);
        due("nothing changes: it FORGETS as ever", x.calf(1, 1), NONE);
    }

    private void keepTwo() {
        checks.says("KEPT: 2 at most. FULL");
        FollowingCalf x = new FollowingCalf();
        due("none", x.count(6), 0);
        due("one", x.keep(), 1);
        due("two", x.keep(), 2);
        x.pass(5);
        due("a third", x.keep(), FULL);
        due("two", x.count(6), 2);
        due("UNDONE can be what was", x.count(5), 1);
        due("back()", x.back(), 1);
        due("the third was not KEPT", x.count(2), 0);
        due("room again", x.keep(), 2);
        due("FULL again", x.keep(), FULL);
    }

    private void keepWhat() {
        checks.says("KEPT are the minute, its YARD, whom it follows, when and how often it was fed");
        FollowingCalf x = checks.laid("f4;l0,1;l1,2;l2,3;p1;w0123;p1;w3210;");
        x.feed(0);
        x.feed(0);
        x.pass(3);
        x.keep();
        due("forgotten soon", x.calf(1, 1), NONE);
        x.feed(0);
        x.pass(1);
        x.pass(98);
        due("far on", x.count(2), 102);
        due("back()", x.back(), 0);
        due("the minute", x.count(2), 3);
        due("its YARD", x.calf(0, 0), 3);
        due("whom it follows", x.calf(0, 1), 0);
        due("when it was fed", x.calf(1, 1), NONE);
        due("how often it was fed", x.feed(0), 3);
        FollowingCalf y = checks.laid("c3;p1;w3;");
        y.keep();
        y.feed(0);
        y.back();
        due("it followed nobody", y.calf(0, 1), NONE);
        due("it was never fed", y.feed(0), 1);
    }

    private void backAsKeptLast() {
        checks.says("As KEPT last: how many are left");
        FollowingCalf x = new FollowingCalf();
        x.pass(1);
        x.keep();
        x.pass(1);
        x.keep();
        x.pass(1);
        due("back()", x.back(), 1);
        due("the last", x.count(2), 2);
        due("how many", x.count(6), 1);
        due("back()", x.back(), 0);
        due("the one ahead of it", x.count(2), 1);
        due("how many", x.count(6), 0);
        x.keep();
        x.pass(9);
        due("back()", x.back(), 0);
        due("KEPT anew", x.count(2), 1);
        Checks.at(x, 9999);
        x.keep();
        x.undo();
        due("UNDONE", x.count(2), 9901);
        due("back()", x.back(), 0);
        due("minute 9999", x.count(2), 9999);
    }

    private void backNothingUndone() {
        checks.says("nothing is UNDONE then");
        FollowingCalf x = new FollowingCalf();
        x.feed(0);
        x.keep();
        for (int k = 0; k < 9; k++) {
            x.pass(1);
        }
        due("8 can be", x.count(5), 8);
        x.back();
        due("none can be", x.count(5), 0);
        due("undo()", x.undo(), NO);
        x.pass(2);
        due("one can be again", x.undo(), 0);
        due("as it was", x.count(2), 0);
    }

    private void backNo() {
        checks.says("back: NO");
        FollowingCalf x = new FollowingCalf();
        x.feed(0);
        x.pass(2);
        due("nothing is KEPT", x.back(), NO);
        due("nothing changes then: minute", x.count(2), 2);
        due("nothing changes then: UNDONE", x.count(5), 2);
        due("nothing changes then: whom it follows", x.calf(0, 1), 0);
        x.keep();
        x.back();
        due("no more", x.back(), NO);
        x.keep();
        Checks.written(x, "p1;").lay();
        due("LAID", x.back(), NO);
    }

    private void keepLeavesUndone() {
        checks.says("UNDONE is the latest feed(), pass() (keep() leaves it)");
        FollowingCalf x = new FollowingCalf();
        x.pass(4);
        x.keep();
        due("it can be", x.count(5), 1);
        due("undo()", x.undo(), 0);
        due("minute 0", x.count(2), 0);
        due("KEPT stays", x.count(6), 1);
        due("back()", x.back(), 0);
        due("minute 4", x.count(2), 4);
    }

    private void countWhat() {
        checks.says("0 YARDS, 1 PERSONS, 2 the minute, 3 GOALS, 4 SIGHTS, 5 that can be UNDONE, 6 KEPT, 7 bytes of THE TEXT");
        String full = "y8;p1;p1;p1;p1;p1;" + "c0;".repeat(94);
        FollowingCalf x = Checks.at(checks.laid(full), 9999);
        x.keep();
        x.keep();
        for (int k = 0; k < 6; k++) {
            x.goal(0, k);
            x.seen(0, k);
        }
        int[] most = {8, 5, 9999, 6, 6, 8, 2, 300};
        for (int what = 0; what < most.length; what++) {
            due("at the most: count(" + what + ")", x.count(what), most[what]);
        }
        FollowingCalf least = checks.laid("y2;p1;");
        least.wipe();
        int[] fewest = {2, 1, 0, 0, 0, 0, 0, 0};
        for (int what = 0; what < fewest.length; what++) {
            due("at the least: count(" + what + ")", least.count(what), fewest[what]);
        }
        FollowingCalf unlike = checks.laid("y7;p1;p1;p1;p1;");
        unlike.pass(9);
        unlike.pass(1);
        unlike.pass(1);
        unlike.keep();
        unlike.seen(0, 0);
        unlike.seen(0, 0);
        for (int k = 0; k < 5; k++) {
            unlike.goal(0, 0);
        }
        int[] each = {7, 4, 11, 5, 2, 3, 1, 15};
        for (int what = 0; what < each.length; what++) {
            due("each another one: count(" + what + ")", unlike.count(what), each[what]);
        }
    }

    private void countBad() {
        checks.says("count: BAD");
        FollowingCalf x = new FollowingCalf();
        for (int what : new int[] {-1, -2, -8, 8, 9, 256, 65536}) {
            due("count(" + what + ")", x.count(what), BAD);
        }
        for (int what : EXTREMES) {
            due("count(" + what + ")", x.count(what), BAD);
        }
    }
}
