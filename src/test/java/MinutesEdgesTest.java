/** Part 2 of the document, promises 8 to 11: each sentence that names an edge. */
public final class MinutesEdgesTest {
    private static final int BAD = -1, NO = -2, NONE = -4;
    private static final int[] EXTREMES = {Integer.MIN_VALUE, Integer.MIN_VALUE + 1, Integer.MAX_VALUE - 1, Integer.MAX_VALUE};

    /** Two YARDS; PERSON 0 goes to and fro, PERSON 1 stays at 0, PERSON 2 at 1. */
    private static final String TO_AND_FRO = "y2;l0,1;p1;w01;p2;w0;p3;w1;";

    private final Checks checks = new Checks();

    public static void main(String[] args) {
        MinutesEdgesTest test = new MinutesEdgesTest();
        test.atFirst();
        test.whoIsThereCanFeed();
        test.feedBad();
        test.followsTheLastOne();
        test.whereTheirWaysSay();
        test.forgetsBehindF();
        test.forgetsAheadOfGoing();
        test.sinceItWasFedLast();
        test.neverForgets();
        test.staysWhereHeIs();
        test.noLanesLead();
        test.byOneLane();
        test.lowestNearerYard();
        test.undoneIsTheLatest();
        test.lastEight();
        test.lastEightAsTheyWere();
        test.undoNothing();
        test.refusedIsNotUndone();
        test.fedThoseUndoneLeftOut();
        test.passOneToNinetyNine();
        test.passAboveTheLastMinute();
        test.passAtOnceOrOneByOne();
        test.behindNoughtToFourHundred();
        test.behindTheLastMinute();
        test.calfWhat();
        test.calfChangesNothing();
        test.checks.end("MinutesEdgesTest");
    }

    private void due(String what, long got, long want) {
        checks.due(what, got, want);
    }

    private void atFirst() {
        checks.says("It is minute 0 at first; THE CALF follows nobody");
        FollowingCalf x = checks.laid(TO_AND_FRO);
        due("minute", x.count(2), 0);
        due("whom it follows", x.calf(0, 1), NONE);
        for (int n : new int[] {1, 2, 99, 400}) {
            due("it stays: " + n, x.calf(n, 0), 0);
            due("it follows nobody: " + n, x.calf(n, 1), NONE);
        }
        due("it stays", x.pass(99), 0);
    }

    private void whoIsThereCanFeed() {
        checks.says("A PERSON who is at its YARD can FEED it (NO: he is not there)");
        FollowingCalf x = checks.laid(TO_AND_FRO);
        due("PERSON 2 is at YARD 1", x.feed(2), NO);
        due("PERSON 1 is there", x.feed(1), 1);
        due("PERSON 0 is there", x.feed(0), 2);
        x.undo();
        x.undo();
        x.pass(1);
        due("minute 1: PERSON 0 has gone", x.feed(0), NO);
        due("minute 1: PERSON 2 is not there yet", x.feed(2), NO);
        due("minute 1: PERSON 1 is there", x.feed(1), 1);
        due("whom it follows", x.calf(0, 1), 1);
        x.pass(1);
        due("minute 2: PERSON 0 is back", x.feed(0), 2);
        x.pass(1);
        due("minute 3: behind him to PERSON 2", x.feed(2), 3);
        due("minute 3: away from PERSON 1", x.feed(1), NO);
        due("whom it follows", x.calf(0, 1), 2);
    }

    private void feedBad() {
        checks.says("feed: BAD (PERSONS: such as there are)");
        String text = "";
        for (int many = 1; many <= 5; many++) {
            text += "p1;";
            FollowingCalf x = checks.laid(text);
            due("feed(-1)", x.feed(-1), BAD);
            due("feed(" + many + ")", x.feed(many), BAD);
            for (int i : EXTREMES) {
                due("feed(" + i + ")", x.feed(i), BAD);
            }
            due("nobody has fed it", x.calf(0, 1), NONE);
            due("nothing can be UNDONE", x.count(5), 0);
            due("the last of them", x.feed(many - 1), 1);
            due("it follows him", x.calf(0, 1), many - 1);
        }
        FollowingCalf away = checks.laid("p1;w1;");
        due("BAD comes ahead of NO", away.feed(1), BAD);
        due("NO", away.feed(0), NO);
    }

    private void followsTheLastOne() {
        checks.says("it follows him from then on");
        FollowingCalf x = checks.laid("p1;p1;p1;p1;p1;");
        for (int i : new int[] {4, 0, 3, 3, 1, 2}) {
            x.feed(i);
            due("whom it follows now", x.calf(0, 1), i);
            due("whom it follows then", x.calf(400, 1), i);
        }
    }

    private void whereTheirWaysSay() {
        checks.says("When a minute has gone by and the next begins, all are where their WAYS say");
        FollowingCalf x = checks.laid("y8;l0,1;l1,2;l2,3;l3,4;l4,5;l5,6;l6,7;l7,0;p1;w01234567;");
        x.feed(0);
        for (int n = 1; n <= 20; n++) {
            due("behind him, round and round: " + n, x.pass(1), n % 8);
        }
        FollowingCalf late = checks.laid("l0,1;p1;w000000000001;");
        late.feed(0);
        due("the last of twelve, a minute ahead", late.calf(10, 0), 0);
        due("the last of twelve", late.calf(11, 0), 1);
        due("the first again", late.calf(12, 0), 0);
        due("the last again", late.calf(23, 0), 1);
    }

    private void forgetsBehindF() {
        checks.says("if it FORGETS, and F minutes have gone by since it was fed last, it follows nobody");
        for (int f = 1; f <= 20; f++) {
            FollowingCalf x = checks.laid("f" + f + ";p1;");
            x.feed(0);
            for (int n = 0; n <= 22; n++) {
                due("F " + f + ", looked ahead: " + n, x.calf(n, 1), n < f ? 0 : NONE);
            }
            for (int n = 0; n <= 22; n++) {
                due("F " + f + ", gone by: " + n, x.calf(0, 1), n < f ? 0 : NONE);
                x.pass(1);
            }
        }
    }

    private void forgetsAheadOfGoing() {
        checks.says("it follows nobody; else, .. it goes");
        for (int f = 1; f <= 20; f++) {
            FollowingCalf x = checks.laid("f" + f + ";" + TO_AND_FRO);
            x.feed(0);
            for (int n = 0; n <= 23; n++) {
                int last = Math.min(n, f - 1);
                due("F " + f + ": its YARD behind " + n, x.calf(n, 0), last % 2);
            }
            due("F " + f + ": its YARD behind 99", x.pass(99), (f - 1) % 2);
        }
    }

    private void sinceItWasFedLast() {
        checks.says("since it was fed last");
        for (int f = 2; f <= 20; f++) {
            FollowingCalf x = checks.laid("f" + f + ";p1;p1;");
            x.feed(0);
            x.pass(f - 1);
            x.feed(1);
            due("F " + f + ": fed by another one", x.calf(f - 1, 1), 1);
            due("F " + f + ": forgotten then", x.calf(f, 1), NONE);
            x.pass(f - 1);
            x.feed(1);
            due("F " + f + ": fed by the same one", x.calf(f - 1, 1), 1);
            due("F " + f + ": forgotten then", x.calf(f, 1), NONE);
            x.undo();
            due("F " + f + ": the feed ahead counts again", x.calf(0, 1), 1);
            due("F " + f + ": forgotten at once", x.calf(1, 1), NONE);
            x.pass(1);
            x.feed(0);
            due("F " + f + ": fed behind forgetting", x.calf(f - 1, 1), 0);
            due("F " + f + ": forgotten again", x.calf(f, 1), NONE);
        }
    }

    private void neverForgets() {
        checks.says("0: never");
        FollowingCalf x = checks.laid("f0;p1;");
        x.feed(0);
        Checks.at(x, 9999);
        due("at minute 9999", x.calf(0, 1), 0);
        due("400 minutes on", x.calf(400, 1), 0);
    }

    private void staysWhereHeIs() {
        checks.says("if it follows one who is not at its YARD");
        FollowingCalf x = checks.laid("y3;l0,1;l1,2;l2,0;c1;p1;w1;");
        x.feed(0);
        for (int n = 1; n <= 5; n++) {
            due("he is there", x.pass(1), 1);
        }
        due("it follows him", x.calf(0, 1), 0);
    }

    private void noLanesLead() {
        checks.says("and to whom LANES lead");
        FollowingCalf x = checks.laid("y5;l0,1;l3,4;p1;w034431;");
        x.feed(0);
        for (int n = 1; n <= 4; n++) {
            due("no LANES lead to him: " + n, x.pass(1), 0);
            due("it follows him: " + n, x.calf(0, 1), 0);
        }
        due("now they do", x.pass(1), 1);
        FollowingCalf away = checks.laid("y6;l0,1;l1,2;l4,5;p1;w012544;");
        away.feed(0);
        due("it is not where it was at first", away.pass(2), 2);
        for (int n = 1; n <= 3; n++) {
            due("it stays there, since no LANES lead to him: " + n, away.pass(1), 2);
        }
        due("towards him, when they do", away.pass(1), 1);
        FollowingCalf none = checks.laid("p1;w0123;");
        none.feed(0);
        due("no LANES at all", none.calf(1, 0), 0);
        due("no LANES at all", none.calf(399, 0), 0);
        due("it follows all the same", none.calf(399, 1), 0);
    }

    private void byOneLane() {
        checks.says("it goes by one LANE");
        FollowingCalf x = checks.laid("y8;l0,1;l1,2;l2,3;l3,4;l4,5;l5,6;l6,7;p1;w077777777777;");
        x.feed(0);
        for (int n = 0; n <= 11; n++) {
            due("its YARD behind " + n, x.calf(n, 0), Math.min(n, 7));
        }
        due("back towards 0", x.calf(12, 0), 6);
        due("and on again", x.calf(13, 0), 7);
    }

    private void lowestNearerYard() {
        checks.says("to the lowest YARD that is by one nearer to his");
        for (int lowest = 1; lowest <= 6; lowest++) {
            StringBuilder text = new StringBuilder("y8;p1;w07;");
            for (int yard = 6; yard >= lowest; yard--) {
                text.append("l0,").append(yard).append(";l7,").append(yard).append(";");
            }
            FollowingCalf x = checks.laid(text.toString());
            x.feed(0);
            due("the lowest of " + (7 - lowest), x.calf(1, 0), lowest);
            FollowingCalf back = checks.laid(text.toString().replace("w07", "w70") + "c7;");
            back.feed(0);
            due("and the other way", back.calf(1, 0), lowest);
        }
        FollowingCalf blind = checks.laid("y5;l2,0;l2,1;l2,3;l3,4;l0,1;c2;p1;w24;");
        blind.feed(0);
        due("not to lower ones that are no nearer", blind.calf(1, 0), 3);
        FollowingCalf near = checks.laid("y4;l0,1;l0,2;l0,3;l1,3;l2,3;p1;w03;");
        near.feed(0);
        due("to his own, if a LANE leads there", near.calf(1, 0), 3);
    }

    private void undoneIsTheLatest() {
        checks.says("UNDONE is the latest feed(), pass()");
        FollowingCalf x = checks.laid(TO_AND_FRO);
        x.feed(1);
        x.feed(0);
        x.pass(3);
        x.feed(2);
        due("follows 2", x.calf(0, 1), 2);
        due("undo()", x.undo(), 3);
        due("follows 0", x.calf(0, 1), 0);
        due("at YARD 1", x.calf(0, 0), 1);
        due("minute 3", x.count(2), 3);
        due("undo()", x.undo(), 2);
        due("minute 0", x.count(2), 0);
        due("at YARD 0", x.calf(0, 0), 0);
        due("follows 0", x.calf(0, 1), 0);
        due("undo()", x.undo(), 1);
        due("follows 1", x.calf(0, 1), 1);
        due("undo()", x.undo(), 0);
        due("follows nobody", x.calf(0, 1), NONE);
        x.feed(1);
        x.goal(0, 1);
        x.seen(0, 1);
        x.keep();
        due("goal(), seen(), keep() are not UNDONE", x.undo(), 0);
        due("GOALS stay", x.count(3), 1);
        due("SIGHTS stay", x.count(4), 1);
        due("KEPT stays", x.count(6), 1);
    }

    private void lastEight() {
        checks.says("the last 8 can be");
        for (int many = 0; many <= 12; many++) {
            FollowingCalf passed = checks.laid("p1;");
            FollowingCalf fed = checks.laid("p1;");
            for (int k = 0; k < many; k++) {
                passed.pass(k + 1);
                fed.feed(0);
            }
            int can = Math.min(many, 8);
            due(many + " pass(): can be", passed.count(5), can);
            due(many + " feed(): can be", fed.count(5), can);
            for (int left = can - 1; left >= 0; left--) {
                due(many + " pass(): undo()", passed.undo(), left);
                due(many + " feed(): undo()", fed.undo(), left);
                int before = many - can + left;
                due(many + " pass(): minute", passed.count(2), before * (before + 1) / 2);
            }
            due(many + " pass(): none more", passed.undo(), NO);
            due(many + " feed(): none more", fed.undo(), NO);
            due(many + " feed(): those that are left", fed.feed(0), many - can + 1);
            due(many + " feed(): it can be again", fed.count(5), 1);
        }
        FollowingCalf mixed = checks.laid(TO_AND_FRO);
        for (int k = 0; k < 6; k++) {
            mixed.feed(0);
            mixed.pass(1);
        }
        for (int left = 7; left >= 0; left--) {
            due("mixed: undo()", mixed.undo(), left);
        }
        due("mixed: none more", mixed.undo(), NO);
        due("mixed: minute 2", mixed.count(2), 2);
        due("mixed: fed twice", mixed.feed(0), 3);
    }

    /** Each moment unlike the ones beside it: its minute, its YARD, whom it follows, when it was fed. */
    private void lastEightAsTheyWere() {
        checks.says("UNDONE: the last 8 (each as it was)");
        FollowingCalf x = checks.laid("f4;y5;l0,1;l1,2;l2,3;l3,4;l4,0;p1;w01234;p1;w01234;");
        int[][] were = new int[21][];
        for (int k = 0; k <= 20; k++) {
            were[k] = new int[] {x.count(2), x.calf(0, 0), x.calf(0, 1), x.calf(1, 1), x.calf(2, 1), x.calf(3, 0)};
            if (k < 20 && k % 3 == 0) {
                due("feed", x.feed(k / 3 % 2), k / 3 + 1);
            } else if (k < 20) {
                due("pass", x.pass(1), (k - k / 3) % 5);
            }
        }
        for (int left = 7; left >= 0; left--) {
            due("undo()", x.undo(), left);
            int[] was = were[12 + left];
            due("the minute", x.count(2), was[0]);
            due("its YARD", x.calf(0, 0), was[1]);
            due("whom it follows", x.calf(0, 1), was[2]);
            due("when it was fed", x.calf(1, 1), was[3]);
            due("when it was fed", x.calf(2, 1), was[4]);
            due("where it will be", x.calf(3, 0), was[5]);
        }
        due("none more", x.undo(), NO);
        due("four feeds are left", x.feed(0), 5);
    }

    private void undoNothing() {
        checks.says("undo: NO");
        FollowingCalf x = new FollowingCalf();
        due("a new object", x.undo(), NO);
        x.goal(1, 1);
        x.seen(1, 1);
        x.keep();
        x.write(1, 'p');
        due("nothing that can be", x.undo(), NO);
        x.feed(0);
        x.undo();
        due("UNDONE already", x.undo(), NO);
        x.pass(1);
        x.back();
        due("back", x.undo(), NO);
        due("nothing changes then", x.count(2), 0);
    }

    private void refusedIsNotUndone() {
        checks.says("nothing changes then (a refused call can not be UNDONE)");
        FollowingCalf x = new FollowingCalf();
        x.feed(1);
        x.feed(2);
        x.pass(0);
        x.pass(100);
        due("none can be", x.count(5), 0);
        x.pass(7);
        x.feed(0);
        due("feed(), he is not there", x.count(5), 1);
        Checks.at(x, 9999);
        int can = x.count(5);
        x.undo();
        due("one fewer", x.count(5), can - 1);
        Checks.at(x, 9999);
        x.pass(1);
        due("above 9999", x.count(5), can);
    }

    private void fedThoseUndoneLeftOut() {
        checks.says("how often it was fed (those UNDONE left out)");
        FollowingCalf x = checks.laid("p1;p1;");
        for (int k = 1; k <= 30; k++) {
            due("feed", x.feed(k % 2), k);
        }
        for (int k = 0; k < 8; k++) {
            x.undo();
        }
        due("30, 8 UNDONE, one more", x.feed(0), 23);
        x.pass(1);
        x.undo();
        due("an UNDONE pass() is none", x.feed(0), 24);
        x.feed(7);
        due("a refused one is none", x.feed(0), 25);
    }

    private void passOneToNinetyNine() {
        checks.says("n minutes (1 to 99) go by. BAD");
        FollowingCalf x = checks.laid("p1;");
        int minute = 0;
        for (int n = 1; n <= 99; n++) {
            due("pass(" + n + ")", x.pass(n), 0);
            minute += n;
            due("minute", x.count(2), minute);
        }
        for (int n : new int[] {0, -1, -99, 100, 101, 9999, 10000}) {
            due("pass(" + n + ")", x.pass(n), BAD);
        }
        for (int n : EXTREMES) {
            due("pass(" + n + ")", x.pass(n), BAD);
        }
        due("nothing changes then", x.count(2), minute);
    }

    private void passAboveTheLastMinute() {
        checks.says("NO: above 9999");
        for (int n : new int[] {1, 2, 50, 98, 99}) {
            FollowingCalf x = Checks.at(checks.laid(TO_AND_FRO), 9999 - n);
            due("just 9999 by " + n, x.pass(n), 0);
            due("minute 9999", x.count(2), 9999);
            due("one more", x.pass(1), NO);
            due("BAD comes ahead of NO", x.pass(0), BAD);
            due("BAD comes ahead of NO", x.pass(100), BAD);
            due("feeding is fine", x.feed(1), 1);
            x.undo();
            x.undo();
            due("UNDONE", x.count(2), 9999 - n);
            if (n < 99) {
                due("one above it by " + (n + 1), x.pass(n + 1), NO);
                due("nothing changes then", x.count(2), 9999 - n);
            }
            due("once more", x.pass(n), 0);
        }
    }

    private void passAtOnceOrOneByOne() {
        checks.says("pass: its YARD");
        for (int n = 1; n <= 99; n++) {
            FollowingCalf at = checks.laid("f13;y5;l0,1;l1,2;l2,3;l3,4;l4,0;p1;w01234;");
            FollowingCalf by = checks.laid("f13;y5;l0,1;l1,2;l2,3;l3,4;l4,0;p1;w01234;");
            at.feed(0);
            by.feed(0);
            int yard = 0;
            for (int k = 0; k < n; k++) {
                yard = by.pass(1);
            }
            due("pass(" + n + ")", at.pass(n), yard);
            due("its YARD", yard, Math.min(n, 12) % 5);
            due("its YARD, asked", at.calf(0, 0), yard);
        }
    }

    private void behindNoughtToFourHundred() {
        checks.says("BEHIND n (0 to 400) minutes in which nobody feeds it");
        FollowingCalf x = checks.laid("l0,1;l1,2;l2,3;l3,0;p1;w0123;");
        x.feed(0);
        for (int n = 0; n <= 400; n++) {
            due("calf(" + n + ", 0)", x.calf(n, 0), n % 4);
        }
        for (int n : new int[] {-1, -2, -400, 401, 402, 9999}) {
            due("calf(" + n + ", 0)", x.calf(n, 0), BAD);
            due("calf(" + n + ", 1)", x.calf(n, 1), BAD);
        }
        for (int n : EXTREMES) {
            due("calf(" + n + ", 0)", x.calf(n, 0), BAD);
            due("calf(" + n + ", 1)", x.calf(n, 1), BAD);
        }
    }

    private void behindTheLastMinute() {
        checks.says("BEHIND n minutes (by now and later, from minute 9999, too)");
        FollowingCalf x = Checks.at(checks.laid("l0,1;l1,2;l2,3;l3,0;c3;p1;w0123;"), 9999);
        due("he is there", x.feed(0), 1);
        for (int n = 0; n <= 8; n++) {
            due("calf(" + n + ", 0)", x.calf(n, 0), (9999 + n) % 4);
        }
        due("calf(400, 0)", x.calf(400, 0), 3);
    }

    private void calfWhat() {
        checks.says("its YARD (what = 0), whom it follows (1; NONE). BAD");
        FollowingCalf x = checks.laid("c2;p1;w2;");
        due("what 0", x.calf(0, 0), 2);
        due("what 1, nobody", x.calf(0, 1), NONE);
        x.feed(0);
        due("what 1", x.calf(0, 1), 0);
        for (int what : new int[] {-1, -2, 2, 3, Integer.MIN_VALUE, Integer.MAX_VALUE}) {
            due("what " + what, x.calf(0, what), BAD);
            due("what " + what, x.calf(400, what), BAD);
        }
    }

    private void calfChangesNothing() {
        checks.says("BEHIND n minutes (none has gone by)");
        FollowingCalf x = checks.laid("f5;" + TO_AND_FRO);
        x.feed(0);
        due("far on", x.calf(400, 1), NONE);
        due("minute", x.count(2), 0);
        due("whom it follows", x.calf(0, 1), 0);
        due("it FORGETS as ever", x.calf(4, 1), 0);
        due("it FORGETS as ever", x.calf(5, 1), NONE);
        due("only the feed can be UNDONE", x.count(5), 1);
    }
}
