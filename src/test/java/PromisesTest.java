/** Each promise by hand: ordinary inputs, the edges that the document names, wrong inputs. */
public final class PromisesTest {
    private static final int BAD = -1, NO = -2, FULL = -3, NONE = -4;

    /** A diamond: from yard 0 to yard 3 by yard 1 or by yard 2. */
    private static final String DIAMOND = "y4;l0,2;l0,1;l2,3;l1,3;p5;w03;";

    /** Yards 0 to 3 in a row; person 0 goes up and stays, person 1 stays at 0, 2 at 3. */
    private static final String ROW = "l0,1;l1,2;l2,3;p7;w012333333333;p2;w0;p4;w3;";

    private final Checks checks = new Checks();

    public static void main(String[] args) {
        PromisesTest test = new PromisesTest();
        test.newObject();
        test.write();
        test.wipe();
        test.fault();
        test.lay();
        test.layStartsAnew();
        test.far();
        test.person();
        test.feed();
        test.pass();
        test.followsByLowestYard();
        test.forgets();
        test.undo();
        test.calf();
        test.goal();
        test.price();
        test.first();
        test.bars();
        test.game();
        test.seen();
        test.how();
        test.sure();
        test.chance();
        test.year();
        test.keepAndBack();
        test.count();
        test.checks.end("PromisesTest");
    }

    private void due(String what, long got, long want) {
        checks.due(what, got, want);
    }

    private void counts(String when, FollowingCalf x, int... want) {
        for (int what = 0; what < want.length; what++) {
            due(when + ": count(" + what + ")", x.count(what), want[what]);
        }
    }

    private void newObject() {
        FollowingCalf x = new FollowingCalf();
        counts("new", x, 4, 2, 0, 0, 0, 0, 0, 0);
        due("new: calf(0, 0)", x.calf(0, 0), 0);
        due("new: calf(0, 1)", x.calf(0, 1), NONE);
        due("new: person(0, -1)", x.person(0, -1), 1);
        due("new: person(1, -1)", x.person(1, -1), 2);
        for (int t = 0; t < 10; t++) {
            due("new: person(0, t)", x.person(0, t), t % 4);
            due("new: person(1, t)", x.person(1, t), 3);
        }
        for (int a = 0; a < 4; a++) {
            for (int b = 0; b < 4; b++) {
                due("new: far", x.far(a, b), Math.abs(a - b));
            }
        }
        due("new: fault()", x.fault(), NONE);
        due("new: lay()", x.lay(), NO);
        counts("refused", x, 4, 2, 0, 0, 0, 0, 0, 0);
    }

    private void write() {
        FollowingCalf x = new FollowingCalf();
        due("write(0, ..)", x.write(0, 'p'), BAD);
        due("write(9, ..)", x.write(9, 'p'), BAD);
        due("write(-1, ..)", x.write(-1, 'p'), BAD);
        due("write(MIN, ..)", x.write(Integer.MIN_VALUE, 'p'), BAD);
        due("write(MAX, ..)", x.write(Integer.MAX_VALUE, 'p'), BAD);
        due("nothing written", x.count(7), 0);
        due("one byte", x.write(1, 'p'), 1);
        due("two bytes", x.write(2, '7' << 8 | ';'), 3);
        due("no fault", x.fault(), NONE);
        due("laid", x.lay(), 1);
        due("cost", x.person(0, -1), 7);
        due("what stands above the n bytes is left out", x.write(1, 0x7878787878787870L), 4);
        due("the last of them counts", x.write(2, 0x787878787878393bL), 6);
        due("no fault yet", x.fault(), NONE);
        due("eight bytes, the highest first", x.write(8, 0x70313b70323b7033L), 14);
        due("the last ITEM has no ;", x.fault(), 12);
        due("a byte above 127", x.write(8, -1L), 22);
        due("still there", x.fault(), 12);
        x.wipe();
        for (int i = 1; i <= 37; i++) {
            due("eight more", x.write(8, 0L), 8 * i);
        }
        due("over 300", x.write(5, 0L), FULL);
        due("BAD comes ahead of FULL", x.write(9, 0L), BAD);
        due("just 300", x.write(4, 0L), 300);
        due("one more", x.write(1, 0L), FULL);
        due("length", x.count(7), 300);
        due("fault", x.fault(), 0);
    }

    private void wipe() {
        FollowingCalf x = new FollowingCalf();
        due("wipe of none", x.wipe(), 0);
        Checks.written(x, "p1;w");
        due("wipe", x.wipe(), 4);
        due("wiped", x.count(7), 0);
        due("wiped: fault", x.fault(), NONE);
        due("wiped twice", x.wipe(), 0);
        due("the farm stays", x.count(1), 2);
    }

    private void fault() {
        String[] sound = {
            "", "y2;", "y8;", "y02;", "y08;", "y4;y5;", "y4;y5;l0,4;", "l0,3;", "l03,00;",
            "l0,1;l1,0;l0,1;", "y8;l0,7;", "y8;y2;l0,1;",
            "p0;", "p9;", "p99;", "p00;", "p1;p2;p3;p4;p5;", "p1;w0;", "p1;w7;",
            "p1;w012345670123;", "p1;w0;w1;", "p1;w1;p2;w3;", "f0;", "f20;", "f1;f2;", "f00;",
            "c0;", "c7;", "c07;", "c1;c2;", "p1;y2;c7;f3;l0,1;p2;w77;"
        };
        for (String text : sound) {
            due("fault() of " + text, faultOf(text), NONE);
        }
        faultAt(0, "y1;", "y0;", "y9;", "y10;", "y002;", "y;", "y", "y4", "y4,", "y4,5;", "yy;", "y 4;");
        faultAt(0, "l0,4;", "l4,0;", "l1,1;", "l01,1;", "l0;", "l0,;", "l,1;", "l0,1", "l0,1,2;", "l;", "l000,1;");
        faultAt(0, "p;", "p100;", "p-1;", "p1", "p1,2;", "p", "pp;");
        faultAt(0, "w0;", "w;", "f21;", "f99;", "f;", "f-1;", "c8;", "c9;", "c10;", "c;", "c70;");
        faultAt(0, ";", ",", "0", " p1;", "P1;", "Y4;", "x1;", "q", "\0", "\u00ff", "1p;");
        faultAt(3, "p1;w;", "p1;w8;", "p1;w9;", "p1;w0", "p1;w0123456701234;", "p1;w0,1;", "p1;wx;", "p1; ", "p1;;",
            "y2;l0,2;", "y2;l1,2;", "y4;y9;", "y5;x", "c3;p", "f1;f21;", "y3;l0,3;");
        faultAt(5, "l0,1;y4;", "l0,1;y5;", "l0,1;l1,4;");
        faultAt(15, "p1;p2;p3;p4;p5;p6;", "p1;p2;p3;p4;p5;p");
        faultAt(8, "y6;l5,4;y6;p1;", "y6;l5,4;l6,1;");
        faultAt(6, "p1;w0;w8;w0;", "p1;w0;q;", "p1;y2;l0,2;l0,1;");
        StringBuilder longest = new StringBuilder();
        for (int i = 0; i < 100; i++) {
            longest.append("c0;");
        }
        due("300 bytes", faultOf(longest.toString()), NONE);
        longest.setCharAt(299, '0');
        due("300 bytes, the last wrong", faultOf(longest.toString()), 297);
    }

    private int faultOf(String text) {
        return Checks.written(new FollowingCalf(), text).fault();
    }

    private void faultAt(int place, String... texts) {
        for (String text : texts) {
            due("fault() of " + text, faultOf(text), place);
        }
    }

    private void lay() {
        layGives(1, "p1;", "p1;w4;y5;", "y5;p1;w4;", "c4;y5;p1;", "c4;c0;p1;", "p1;w7;w0;", "y2;p1;w01;c1;", "y8;y7;p1;w6;");
        layGives(2, "p1;p1;");
        layGives(5, "p1;p2;p3;p4;p5;", "p1;p2;p3;p4;p5;w3;");
        layGives(NO, "", "y4;", "y5;l0,4;c1;f3;", "p1;w4;", "p1;w0004;", "p1;p1;w4;p1;", "y2;p1;w2;", "y2;p1;c2;",
            "c4;p1;", "p1;w3;y3;", "p1;w0;w4;", "c0;c7;p1;", "p1", "p1;w;", "p1;x", "y8;y7;p1;w7;");
    }

    private void layGives(int want, String... texts) {
        for (String text : texts) {
            FollowingCalf x = Checks.written(new FollowingCalf(), text);
            due("lay() of " + text, x.lay(), want);
        }
    }

    private void layStartsAnew() {
        FollowingCalf x = new FollowingCalf();
        x.feed(0);
        x.pass(2);
        x.feed(0);
        x.goal(1, 1);
        x.seen(0, 0);
        x.keep();
        Checks.written(x, "p1;w4;");
        due("lay refused", x.lay(), NO);
        counts("lay refused", x, 4, 2, 2, 1, 1, 3, 1, 6);
        due("lay refused: yard", x.calf(0, 0), 2);
        due("lay refused: follows", x.calf(0, 1), 0);
        Checks.written(x, "y5;l0,4;c4;p3;w40;p5;p6;");
        due("lay", x.lay(), 3);
        counts("lay", x, 5, 3, 0, 0, 0, 0, 0, 24);
        due("lay: yard", x.calf(0, 0), 4);
        due("lay: follows", x.calf(0, 1), NONE);
        due("lay: no lane is left", x.far(0, 1), NONE);
        due("lay: lane", x.far(0, 4), 1);
        due("lay: the way without w", x.person(1, 7), 0);
        due("lay: undo", x.undo(), NO);
        due("lay: back", x.back(), NO);
        due("lay: fed anew", x.feed(0), 1);
        due("lay again, the same text", x.lay(), 3);
        due("lay again: follows", x.calf(0, 1), NONE);
        due("lay again: fed anew", x.feed(0), 1);
    }

    private void far() {
        FollowingCalf x = checks.laid("y6;l0,1;l1,2;l2,3;l3,0;l4,5;p1;");
        due("far(0, 2)", x.far(0, 2), 2);
        due("far(0, 3)", x.far(0, 3), 1);
        due("far(4, 5)", x.far(4, 5), 1);
        due("far(5, 4)", x.far(5, 4), 1);
        due("far(5, 5)", x.far(5, 5), 0);
        due("far(0, 4)", x.far(0, 4), NONE);
        due("far(5, 1)", x.far(5, 1), NONE);
        due("far(6, 0)", x.far(6, 0), BAD);
        due("far(0, 6)", x.far(0, 6), BAD);
        due("far(-1, 0)", x.far(-1, 0), BAD);
        due("far(0, -1)", x.far(0, -1), BAD);
        due("far(MAX, MIN)", x.far(Integer.MAX_VALUE, Integer.MIN_VALUE), BAD);
        FollowingCalf y = checks.laid("y8;l0,1;l1,2;l2,3;l3,4;l4,5;l5,6;l6,7;p1;");
        due("the longest", y.far(0, 7), 7);
    }

    private void person() {
        FollowingCalf x = checks.laid("y8;p99;w01234567012;p0;p7;w6;w5;");
        due("cost 99", x.person(0, -1), 99);
        due("cost 0", x.person(1, -1), 0);
        due("eleven figures", x.person(0, 11), 0);
        due("eleven figures, the last", x.person(0, 10), 2);
        due("minute 9999", x.person(0, 9999), 0);
        due("without w", x.person(1, 9999), 0);
        due("the last w", x.person(2, 0), 5);
        due("person 3", x.person(3, 0), BAD);
        due("person -1", x.person(-1, 0), BAD);
        due("minute 10000", x.person(0, 10000), BAD);
        due("what -2", x.person(0, -2), BAD);
        due("what MIN", x.person(0, Integer.MIN_VALUE), BAD);
    }

    private void feed() {
        FollowingCalf x = new FollowingCalf();
        due("feed(2)", x.feed(2), BAD);
        due("feed(-1)", x.feed(-1), BAD);
        due("feed(1), who is not there", x.feed(1), NO);
        due("follows", x.calf(0, 1), NONE);
        due("nothing to undo", x.count(5), 0);
        due("feed(0)", x.feed(0), 1);
        due("follows 0", x.calf(0, 1), 0);
        due("twice in a minute", x.feed(0), 2);
        due("undone", x.undo(), 1);
        due("those undone are left out", x.feed(0), 2);
        FollowingCalf y = checks.laid("p1;p2;p3;w1;");
        due("feed(1)", y.feed(1), 1);
        due("feed(0)", y.feed(0), 2);
        due("the last one", y.calf(0, 1), 0);
        due("feed(2)", y.feed(2), NO);
        due("feed(3)", y.feed(3), BAD);
    }

    private void pass() {
        FollowingCalf x = new FollowingCalf();
        due("pass(0)", x.pass(0), BAD);
        due("pass(100)", x.pass(100), BAD);
        due("pass(-1)", x.pass(-1), BAD);
        due("pass(MIN)", x.pass(Integer.MIN_VALUE), BAD);
        due("nobody feeds it", x.pass(3), 0);
        due("minute 3", x.count(2), 3);
        due("pass(1)", x.pass(1), 0);
        x.feed(0);
        due("behind him", x.pass(1), 1);
        due("behind him", x.pass(2), 3);
        due("he is at 0, it goes back by one", x.pass(1), 2);
        due("he is at 1", x.pass(1), 1);
        due("he is at 2", x.pass(1), 2);
        for (int i = 0; i < 100; i++) {
            x.pass(99);
        }
        due("minute", x.count(2), 10 + 99 * 100);
        due("above 9999", x.pass(99), NO);
        due("above 9999 by one", x.pass(90), NO);
        due("minute stays", x.count(2), 9910);
        due("BAD comes ahead of NO", x.pass(100), BAD);
        due("just 9999: he is at 3", x.pass(89), 3);
        due("minute 9999", x.count(2), 9999);
        due("no more", x.pass(1), NO);
        due("looking is still fine", x.calf(1, 0), 2);
        due("400 on", x.calf(400, 0), x.calf(0, 0));
    }

    private void followsByLowestYard() {
        FollowingCalf x = checks.laid(DIAMOND);
        x.feed(0);
        due("the lower of two", x.pass(1), 1);
        due("back at once", x.pass(1), 0);
        FollowingCalf y = checks.laid("y4;l3,1;l1,0;l3,2;l2,0;c3;p1;w30;");
        y.feed(0);
        due("the lower of two, told otherwise", y.pass(1), 1);
        FollowingCalf apart = checks.laid("y3;l0,1;p1;w0211;");
        apart.feed(0);
        due("no lanes lead to him", apart.pass(1), 0);
        due("it follows all the same", apart.calf(0, 1), 0);
        due("now they do", apart.pass(1), 1);
    }

    private void forgets() {
        FollowingCalf one = checks.laid("f1;l0,1;p1;w01;");
        one.feed(0);
        due("F 1: fed", one.calf(0, 1), 0);
        due("F 1: forgets ahead of going", one.calf(1, 0), 0);
        due("F 1: forgotten", one.calf(1, 1), NONE);
        FollowingCalf two = checks.laid("f2;l0,1;l1,2;l2,3;p1;w0123;");
        two.feed(0);
        due("F 2: goes", two.calf(1, 0), 1);
        due("F 2: follows", two.calf(1, 1), 0);
        due("F 2: stays", two.calf(2, 0), 1);
        due("F 2: forgotten", two.calf(2, 1), NONE);
        two.pass(1);
        two.feed(0);
        due("F 2: fed anew", two.calf(1, 0), 2);
        due("F 2: fed anew, forgotten", two.calf(2, 0), 2);
        FollowingCalf twenty = checks.laid("f20;l0,1;p1;w0;p1;w01;");
        twenty.feed(1);
        due("F 20: minute 19", twenty.calf(19, 0), 1);
        due("F 20: minute 19 follows", twenty.calf(19, 1), 1);
        due("F 20: minute 20", twenty.calf(20, 0), 1);
        due("F 20: minute 20 follows", twenty.calf(20, 1), NONE);
        twenty.pass(19);
        due("F 20: passed", twenty.calf(0, 1), 1);
        twenty.pass(1);
        due("F 20: passed, forgotten", twenty.calf(0, 1), NONE);
        FollowingCalf never = checks.laid("f3;f0;l0,1;p1;w01;");
        never.feed(0);
        due("F 0: never", never.calf(400, 1), 0);
    }

    private void undo() {
        FollowingCalf x = new FollowingCalf();
        due("nothing yet", x.undo(), NO);
        x.feed(0);
        x.pass(3);
        x.feed(1);
        x.feed(7);
        x.pass(0);
        x.feed(0);
        due("three can be, and a fourth", x.count(5), 4);
        due("undo", x.undo(), 3);
        due("follows 1", x.calf(0, 1), 1);
        due("undo", x.undo(), 2);
        due("follows 0", x.calf(0, 1), 0);
        due("undo", x.undo(), 1);
        due("minute", x.count(2), 0);
        due("yard", x.calf(0, 0), 0);
        due("still fed", x.calf(0, 1), 0);
        due("undo", x.undo(), 0);
        due("not fed", x.calf(0, 1), NONE);
        due("nothing left", x.undo(), NO);
        for (int i = 0; i < 11; i++) {
            x.pass(1);
        }
        due("the last 8", x.count(5), 8);
        for (int left = 7; left >= 0; left--) {
            due("undo", x.undo(), left);
        }
        due("no ninth", x.undo(), NO);
        due("minute 3", x.count(2), 3);
        FollowingCalf f = checks.laid("f4;l0,1;p1;w1;p1;w01;");
        f.feed(1);
        f.pass(3);
        f.feed(0);
        f.feed(1);
        f.undo();
        f.undo();
        due("when it was fed is undone, too", f.calf(1, 1), NONE);
        due("until then it follows", f.calf(0, 1), 1);
    }

    private void calf() {
        FollowingCalf x = new FollowingCalf();
        x.feed(0);
        int[] yards = {0, 1, 2, 3, 2, 1, 2, 3};
        for (int n = 0; n < yards.length; n++) {
            due("calf(n, 0)", x.calf(n, 0), yards[n]);
            due("calf(n, 1)", x.calf(n, 1), 0);
        }
        due("calf(400, 0)", x.calf(400, 0), 2);
        due("calf(401, 0)", x.calf(401, 0), BAD);
        due("calf(-1, 0)", x.calf(-1, 0), BAD);
        due("calf(0, 2)", x.calf(0, 2), BAD);
        due("calf(0, -1)", x.calf(0, -1), BAD);
        due("nothing has gone by", x.count(2), 0);
        due("nothing to undo but the feed", x.count(5), 1);
    }

    private void goal() {
        FollowingCalf x = new FollowingCalf();
        due("noGoals of none", x.noGoals(), 0);
        due("goal(4, 0)", x.goal(4, 0), BAD);
        due("goal(-1, 0)", x.goal(-1, 0), BAD);
        due("goal(0, 41)", x.goal(0, 41), BAD);
        due("goal(0, -1)", x.goal(0, -1), BAD);
        due("goals", x.count(3), 0);
        due("goal(0, 0)", x.goal(0, 0), 1);
        due("goal(0, 0) again", x.goal(0, 0), 2);
        due("goal(0, 40)", x.goal(0, 40), 3);
        due("goal(3, 3)", x.goal(3, 3), 4);
        due("goal(3, 3)", x.goal(3, 3), 5);
        due("goal(3, 3)", x.goal(3, 3), 6);
        due("a seventh", x.goal(3, 3), FULL);
        due("BAD comes ahead of FULL", x.goal(3, 41), BAD);
        due("noGoals", x.noGoals(), 6);
        due("goals", x.count(3), 0);
        due("room again", x.goal(3, 3), 1);
    }

    private void price() {
        FollowingCalf x = checks.laid(ROW);
        due("without goals", x.price(), 0);
        x.goal(3, 3);
        due("he leads it", x.price(), 7);
        due("by nothing but him", x.first(), 0);
        x.goal(0, 0);
        due("it is there now", x.price(), 7);
        x.goal(3, 6);
        due("it stays behind him", x.price(), 7);
        x.noGoals();
        // At minute 3 it is at 3 behind person 0, whose round begins anew at minute 12.
        x.goal(3, 11);
        x.goal(2, 12);
        due("he goes back to 0, it goes by one", x.price(), 7);
        x.noGoals();
        x.goal(3, 11);
        x.goal(3, 12);
        due("person 2 keeps it there", x.price(), 7 + 4);
        x.noGoals();
        x.goal(0, 40);
        due("nobody feeds it", x.price(), 0);
        x.goal(1, 40);
        due("two yards at once", x.price(), NONE);
        x.noGoals();
        x.goal(1, 0);
        due("it is elsewhere now", x.price(), NONE);
        x.noGoals();
        x.goal(3, 3);
        x.feed(0);
        due("fed already", x.price(), 0);
        x.pass(1);
        due("from now on, whenever one asks", x.price(), 0);
        x.feed(0);
        x.pass(99);
        due("minutes go on", x.count(2), 100);
        FollowingCalf cheap = checks.laid("l0,1;p9;w01;p3;w01;p3;w01;");
        cheap.goal(1, 1);
        due("the cheapest of three", cheap.price(), 3);
        due("of two alike the lowest", cheap.first(), 1);
        FollowingCalf tired = checks.laid("f2;l0,1;l1,2;l2,3;p5;w0123;");
        tired.goal(3, 3);
        due("it forgets and is fed again", tired.price(), 15);
    }

    private void first() {
        FollowingCalf x = checks.laid(ROW);
        due("without goals", x.first(), NONE);
        x.goal(0, 5);
        due("nobody", x.first(), NONE);
        x.noGoals();
        x.goal(3, 3);
        due("person 0", x.first(), 0);
        x.goal(0, 3);
        due("no way", x.first(), NONE);
        x.noGoals();
        x.goal(0, 0);
        due("nothing to come", x.first(), NONE);
        FollowingCalf late = checks.laid("l0,1;p0;w001;p0;w001;");
        late.goal(1, 2);
        due("for nothing", late.price(), 0);
        due("nobody now, who can then", late.first(), NONE);
        late.pass(1);
        late.noGoals();
        late.goal(1, 1);
        due("now it must be", late.first(), 0);
        FollowingCalf keep = checks.laid("l0,1;p1;w01;p8;w0;");
        keep.feed(0);
        keep.goal(0, 1);
        due("only he can", keep.first(), 1);
        due("what he costs", keep.price(), 8);
    }

    private void bars() {
        FollowingCalf x = checks.laid(ROW);
        due("without goals", x.bars(), NONE);
        x.goal(3, 3);
        due("none bars it", x.bars(), NONE);
        x.goal(0, 2);
        due("the later one, told first", x.bars(), 0);
        x.goal(1, 0);
        due("now the earliest", x.bars(), 2);
        x.noGoals();
        x.goal(3, 9);
        x.goal(3, 9);
        x.goal(1, 5);
        x.goal(2, 5);
        x.goal(0, 5);
        due("of several at one minute the one told first", x.bars(), 2);
        x.noGoals();
        x.goal(3, 9);
        x.goal(0, 9);
        due("the first of them can be, the next bars it", x.bars(), 1);
    }

    private void game() {
        FollowingCalf x = new FollowingCalf();
        due("he leads it", x.game(3, 3, 1, 0), 1);
        due("person 0 feeds", x.game(3, 3, 1, 1), 0);
        due("without him", x.game(3, 3, 2, 0), 0);
        due("without him: none", x.game(3, 3, 2, 1), NONE);
        due("nobody of the side: the others need not", x.game(2, 0, 0, 0), 1);
        due("nobody of the side: none", x.game(2, 0, 0, 1), NONE);
        due("n 0", x.game(0, 0, 0, 0), BAD);
        due("n 13", x.game(13, 0, 0, 0), BAD);
        due("n 12", x.game(12, 0, 3, 0), 1);
        due("y 4", x.game(1, 4, 0, 0), BAD);
        due("y -1", x.game(1, -1, 0, 0), BAD);
        due("g 4", x.game(1, 0, 4, 0), BAD);
        due("g -1", x.game(1, 0, -1, 0), BAD);
        due("g MIN", x.game(1, 0, Integer.MIN_VALUE, 0), BAD);
        due("what 2", x.game(1, 0, 0, 2), BAD);
        due("what -1", x.game(1, 0, 0, -1), BAD);
        due("nothing changes", x.count(2), 0);
        // Both go from 0 to 1 and 2, person 1 only back to 0: he spoils it in the second minute.
        FollowingCalf y = checks.laid("l0,1;l1,2;p0;w012;p0;w010;");
        due("one minute is theirs alone", y.game(1, 1, 1, 0), 1);
        due("in the second the others feed it", y.game(2, 2, 1, 0), 0);
        due("both of one side", y.game(2, 2, 3, 0), 1);
        due("the others spoil it only by feeding", y.game(2, 0, 1, 1), NONE);
        due("it stays where it is", y.game(1, 0, 1, 0), 1);
        due("nobody, if that will do", y.game(1, 0, 3, 1), NONE);
        due("the lowest by whom it does", y.game(1, 1, 3, 1), 0);
        due("only person 1 is of the side", y.game(1, 1, 2, 1), 1);
        FollowingCalf all = checks.laid("p0;p0;p0;p0;p0;w1;");
        due("g 31", all.game(12, 0, 31, 0), 1);
        due("g 32", all.game(12, 0, 32, 0), BAD);
    }

    private void seen() {
        FollowingCalf x = new FollowingCalf();
        due("forget of none", x.forget(), 0);
        due("seen(4, 0)", x.seen(4, 0), BAD);
        due("seen(-1, 0)", x.seen(-1, 0), BAD);
        due("seen(0, 21)", x.seen(0, 21), BAD);
        due("seen(0, -1)", x.seen(0, -1), BAD);
        for (int i = 1; i <= 6; i++) {
            due("seen(0, 20)", x.seen(0, 20), i);
        }
        due("a seventh", x.seen(0, 20), FULL);
        due("BAD comes ahead of FULL", x.seen(4, 20), BAD);
        due("sights", x.count(4), 6);
        due("forget", x.forget(), 6);
        due("sights", x.count(4), 0);
        due("room again", x.seen(0, 0), 1);
    }

    private void how() {
        FollowingCalf x = new FollowingCalf();
        due("without sights", x.how(), 1);
        x.seen(0, 0);
        due("at the beginning", x.how(), 1);
        x.seen(0, 1);
        due("nobody fed it", x.how(), 1);
        x.forget();
        // Person 0 at minute 0, then he or nobody at 1 and 2; at minute 3 person 1 is there, too.
        x.seen(3, 3);
        due("in four ways", x.how(), 4);
        x.pass(7);
        due("from the beginning, whatever is now", x.how(), 4);
        x.seen(3, 4);
        due("only behind person 1", x.how(), 4);
        x.seen(0, 4);
        due("in no way", x.how(), 0);
        x.forget();
        x.seen(1, 0);
        due("not there at first", x.how(), 0);
        FollowingCalf many = checks.laid("p1;p1;p1;p1;p1;");
        many.seen(0, 20);
        due("six to the power of 20", many.how(), 3656158440062976L);
        due("nobody must have", many.sure(0), 0);
    }

    private void sure() {
        FollowingCalf x = new FollowingCalf();
        due("without sights", x.sure(0), 0);
        x.seen(3, 3);
        due("person 0", x.sure(0), 1);
        due("not person 1", x.sure(1), 0);
        x.seen(3, 4);
        due("person 1, too", x.sure(1), 1);
        x.seen(0, 4);
        due("no way: person 0", x.sure(0), 0);
        due("no way: person 1", x.sure(1), 0);
        due("sure(2)", x.sure(2), BAD);
        due("sure(-1)", x.sure(-1), BAD);
        FollowingCalf two = checks.laid("l0,1;p1;w01;p1;w01;");
        two.seen(1, 1);
        due("either of them", two.how(), 2);
        due("neither must have", two.sure(0) + two.sure(1), 0);
    }

    private void chance() {
        FollowingCalf x = new FollowingCalf();
        share(x, 0, 0, 1, 1);
        share(x, 1, 0, 0, 1);
        share(x, 0, 1, 1, 2);
        share(x, 1, 1, 1, 2);
        share(x, 3, 3, 1, 2);
        due("n 7", x.chance(0, 7, 0), BAD);
        due("n -1", x.chance(0, -1, 0), BAD);
        due("part 2", x.chance(0, 0, 2), BAD);
        due("part -1", x.chance(0, 0, -1), BAD);
        due("yard 4", x.chance(4, 0, 0), BAD);
        due("yard -1", x.chance(-1, 0, 0), BAD);
        // One of three stays at 0, two go to 1: 1/2 and 1/6 that it stays.
        FollowingCalf three = checks.laid("l0,1;p1;w01;p1;w0;p1;w01;");
        share(three, 0, 1, 2, 3);
        share(three, 1, 1, 1, 3);
        share(three, 2, 1, 0, 1);
        // Four of five stay each minute: the fifth leads it off with 1/10.
        FollowingCalf five = checks.laid("l0,1;p1;p1;p1;p1;p1;w01;");
        share(five, 1, 1, 1, 10);
        share(five, 0, 1, 9, 10);
        five.feed(4);
        share(five, 1, 1, 3, 5);
    }

    private void share(FollowingCalf x, int yard, int n, long above, long below) {
        due("chance(" + yard + ", " + n + ", 0)", x.chance(yard, n, 0), above);
        due("chance(" + yard + ", " + n + ", 1)", x.chance(yard, n, 1), below);
    }

    private void year() {
        FollowingCalf x = new FollowingCalf();
        // Draw 1: by 8 it is 0, so nobody feeds it in minute 0 of year 0.
        due("year(0, 1, 0)", x.year(0, 1, 0), 0);
        due("year(0, 1, 1)", x.year(0, 1, 1), 0);
        due("year(5, 400, 0)", x.year(5, 400, 0), 127);
        due("year(5, 400, 1)", x.year(5, 400, 1), 2);
        due("z -1", x.year(-1, 1, 0), BAD);
        due("z 10000", x.year(10000, 1, 0), BAD);
        due("n 0", x.year(0, 0, 0), BAD);
        due("n 401", x.year(0, 401, 0), BAD);
        due("what 2", x.year(0, 1, 2), BAD);
        due("what -1", x.year(0, 1, -1), BAD);
        // x is 7920 and x times x 62726400, which is 22803 modulo 65521; by 8 that is 2850.
        FollowingCalf one = checks.laid("l0,1;p1;w01;");
        due("year(1, 1, 0)", one.year(1, 1, 0), 0);
        // x is 6152 in minute 1: 37847104, 41487 modulo 65521, by 8 that is 5185, odd.
        due("year(0, 2, 0)", one.year(0, 2, 0), 0);
        FollowingCalf stays = checks.laid("p1;");
        due("year(0, 2, 0), he is there", stays.year(0, 2, 0), 1);
        stays.pass(3);
        stays.feed(0);
        due("from the beginning, whatever is now", stays.year(0, 2, 0), 1);
        due("nothing changes", stays.count(2), 3);
        due("year(9999, 400, 1)", stays.year(9999, 400, 1), 0);
    }

    private void keepAndBack() {
        FollowingCalf x = checks.laid("f4;l0,1;l1,2;l2,3;p1;w0123;");
        due("back of none", x.back(), NO);
        x.feed(0);
        x.pass(2);
        due("keep", x.keep(), 1);
        x.feed(0);
        x.pass(5);
        due("keep", x.keep(), 2);
        due("a third", x.keep(), FULL);
        due("kept", x.count(6), 2);
        due("undone can be", x.count(5), 4);
        x.pass(9);
        due("back", x.back(), 1);
        due("minute 7", x.count(2), 7);
        due("nothing is undone", x.count(5), 0);
        due("undo", x.undo(), NO);
        x.pass(1);
        due("back", x.back(), 0);
        due("minute 2", x.count(2), 2);
        due("yard 2", x.calf(0, 0), 2);
        due("follows", x.calf(0, 1), 0);
        due("when it was fed: it follows at minute 3", x.calf(1, 1), 0);
        due("when it was fed: it forgets at minute 4", x.calf(2, 1), NONE);
        due("undo", x.undo(), NO);
        due("how often it was fed", x.feed(0), 2);
        due("back", x.back(), NO);
        due("undo is not barred", x.undo(), 0);
        x.keep();
        x.goal(1, 1);
        x.seen(1, 1);
        due("back", x.back(), 0);
        due("goals stay", x.count(3), 1);
        due("sights stay", x.count(4), 1);
    }

    private void count() {
        FollowingCalf x = checks.laid("y7;p1;p1;p1;");
        x.pass(4);
        x.feed(0);
        x.goal(0, 1);
        x.goal(0, 2);
        x.seen(0, 1);
        x.keep();
        counts("count", x, 7, 3, 4, 2, 1, 2, 1, 12);
        due("count(8)", x.count(8), BAD);
        due("count(-1)", x.count(-1), BAD);
        due("count(MAX)", x.count(Integer.MAX_VALUE), BAD);
        due("count(MIN)", x.count(Integer.MIN_VALUE), BAD);
    }
}
