/** Part 1 of the document, LAID, and promises 1 to 7: each sentence that names an edge. */
public final class TextEdgesTest {
    private static final int BAD = -1, NO = -2, FULL = -3, NONE = -4;

    private final Checks checks = new Checks();

    public static void main(String[] args) {
        TextEdgesTest test = new TextEdgesTest();
        test.newObject();
        test.threeHundredBytes();
        test.writeTakesOneToEight();
        test.writeHighestFirst();
        test.writeFull();
        test.wipe();
        test.emptyText();
        test.oneBehindTheOther();
        test.letters();
        test.everyByte();
        test.numbers();
        test.partedByComma();
        test.semicolonBehind();
        test.figuresOfAWay();
        test.yards();
        test.fourYardsWithout();
        test.noLaneAhead();
        test.lanes();
        test.costs();
        test.fivePersons();
        test.wayOfThePersonToldLast();
        test.moduloHowMany();
        test.yardZeroWithout();
        test.lastWay();
        test.forgetsAtMost();
        test.forgetsWithoutAndLast();
        test.calfAt();
        test.calfWithoutAndLast();
        test.firstFault();
        test.laidWithoutFault();
        test.laidWithAPerson();
        test.laidYardsOfWays();
        test.laidYardOfTheCalf();
        test.layAnew();
        test.layRefused();
        test.far();
        test.farNone();
        test.person();
        test.checks.end("TextEdgesTest");
    }

    private void due(String what, long got, long want) {
        checks.due(what, got, want);
    }

    private void fault(int want, String text) {
        due("fault() of " + text, Checks.written(new FollowingCalf(), text).fault(), want);
    }

    private void sound(String... texts) {
        for (String text : texts) {
            fault(NONE, text);
        }
    }

    private void lay(int want, String text) {
        due("lay() of " + text, Checks.written(new FollowingCalf(), text).lay(), want);
    }

    /** Laid twice, so that nothing is left of the farm ahead, nor of the one ahead of that. */
    private void relaid(FollowingCalf x, String text) {
        Checks.written(x, text);
        due("lay() of " + text, x.lay() > 0 ? 1 : 0, 1);
        due("lay() again of " + text, x.lay() > 0 ? 1 : 0, 1);
    }

    private void newObject() {
        checks.says("at first y4;l0,1;l1,2;l2,3;p1;w0123;p2;w3;");
        FollowingCalf x = new FollowingCalf();
        FollowingCalf told = checks.laid("y4;l0,1;l1,2;l2,3;p1;w0123;p2;w3;");
        due("THE TEXT is empty", x.count(7), 0);
        due("nothing can be UNDONE", x.undo(), NO);
        due("nothing is KEPT", x.back(), NO);
        due("no GOALS", x.noGoals(), 0);
        due("no SIGHTS", x.forget(), 0);
        for (int what = 0; what < 7; what++) {
            due("count(" + what + ")", x.count(what), told.count(what));
        }
        for (int a = -1; a <= 4; a++) {
            for (int b = -1; b <= 4; b++) {
                due("far(" + a + ", " + b + ")", x.far(a, b), told.far(a, b));
            }
        }
        for (int i = -1; i <= 2; i++) {
            for (int what = -2; what <= 8; what++) {
                due("person(" + i + ", " + what + ")", x.person(i, what), told.person(i, what));
            }
        }
        due("THE CALF is at YARD 0", x.calf(0, 0), 0);
        due("it never FORGETS", x.feed(0) + x.calf(400, 1), 1);
    }

    private void threeHundredBytes() {
        checks.says("A TEXT is bytes (300 at most)");
        String full = "c0;".repeat(99) + "p7;";
        FollowingCalf x = Checks.written(new FollowingCalf(), full);
        due("300 bytes", x.count(7), 300);
        due("no FAULT in them", x.fault(), NONE);
        due("LAID", x.lay(), 1);
        due("the last ITEM counts", x.person(0, -1), 7);
        fault(297, "c0;".repeat(99) + "p7,");
        fault(299, "c0;".repeat(97) + "p10;p20;q");
        FollowingCalf over = Checks.written(new FollowingCalf(), "c0;".repeat(101));
        due("the last 7 of 303 find no room", over.count(7), 296);
        due("of 296 the last ITEM has no ;", over.fault(), 294);
    }

    private void writeTakesOneToEight() {
        checks.says("n bytes (1 to 8) of v");
        int[] wrong = {0, 9, -1, -8, 10, 256, 257, 264, 65537, Integer.MIN_VALUE, Integer.MIN_VALUE + 1, Integer.MAX_VALUE};
        FollowingCalf x = new FollowingCalf();
        for (int n : wrong) {
            due("write(" + n + ", ..)", x.write(n, 0x70313b70313b70L), BAD);
            due("nothing is written", x.count(7), 0);
        }
        for (int n = 1; n <= 8; n++) {
            FollowingCalf y = new FollowingCalf();
            due("write(" + n + ", 0)", y.write(n, 0L), n);
            due("write(" + n + ", -1)", y.write(n, -1L), 2 * n);
            due("how long it is", y.count(7), 2 * n);
        }
    }

    private void writeHighestFirst() {
        checks.says("n bytes of v, the highest first, come behind THE TEXT");
        String text = "y8;l0,7;p42;w70;c7;f3;";
        for (int n = 1; n <= 8; n++) {
            FollowingCalf x = new FollowingCalf();
            for (int from = 0; from < text.length(); from += n) {
                int to = Math.min(from + n, text.length());
                long v = 0x8090a0b0c0d0e0f0L;
                for (int i = from; i < to; i++) {
                    v = v << 8 | text.charAt(i);
                }
                due("how long it is by " + n, x.write(to - from, v), to);
            }
            due("LAID by " + n, x.lay(), 1);
            due("YARDS by " + n, x.count(0), 8);
            due("LANE by " + n, x.far(0, 7), 1);
            due("cost by " + n, x.person(0, -1), 42);
            due("WAY by " + n, x.person(0, 0) * 10 + x.person(0, 1), 70);
            due("THE CALF by " + n, x.calf(0, 0), 7);
        }
    }

    private void writeFull() {
        checks.says("write: BAD; FULL");
        for (int n = 1; n <= 8; n++) {
            FollowingCalf x = Checks.written(new FollowingCalf(), "p".repeat(300 - n));
            due("just as many as there is room for", x.write(n, 0L), 300);
            FollowingCalf y = Checks.written(new FollowingCalf(), "p".repeat(301 - n));
            due("one more than there is room for", y.write(n, 0L), FULL);
            due("nothing is written of it", y.count(7), 301 - n);
            due("BAD comes ahead of FULL", y.write(9, 0L), BAD);
            due("BAD comes ahead of FULL", y.write(0, 0L), BAD);
        }
        FollowingCalf full = Checks.written(new FollowingCalf(), "p1;" + "c0;".repeat(99));
        for (int n = 1; n <= 8; n++) {
            due("write(" + n + ") into a full one", full.write(n, 0L), FULL);
        }
        due("it is as it was", full.fault(), NONE);
        due("it can be LAID", full.lay(), 1);
    }

    private void wipe() {
        checks.says("THE TEXT is empty: how long it was");
        FollowingCalf x = new FollowingCalf();
        due("of an empty one", x.wipe(), 0);
        for (int length = 1; length <= 8; length++) {
            x.write(length, 0L);
            due("of " + length, x.wipe(), length);
            due("empty", x.count(7), 0);
        }
        Checks.written(x, "q".repeat(300));
        due("of a full one", x.wipe(), 300);
        due("empty", x.count(7), 0);
        due("no FAULT is left", x.fault(), NONE);
        due("the next bytes are the first", x.write(3, 0x70313b), 3);
        due("nothing old is behind them", x.fault(), NONE);
        x.lay();
        x.wipe();
        due("what is LAID stays", x.count(1), 1);
    }

    private void emptyText() {
        checks.says("FAULT. NONE. (of no ITEMS)");
        FollowingCalf x = new FollowingCalf();
        due("fault()", x.fault(), NONE);
        x.write(1, 'q');
        due("fault()", x.fault(), 0);
        x.wipe();
        due("fault()", x.fault(), NONE);
    }

    private void oneBehindTheOther() {
        checks.says("ITEMS one behind the other");
        sound("y4;l0,1;p1;w0;f1;c1;", "c1;f1;p1;w0;y4;l0,1;");
        for (String between : new String[] {" ", "\n", ";", ",", "0", "\0", "\u00a0"}) {
            fault(3, "p1;" + between);
            fault(3, "p1;" + between + "p2;");
            fault(0, between + "p1;");
        }
    }

    private void letters() {
        checks.says("each a letter");
        for (int sign = 0; sign < 256; sign++) {
            char first = (char) sign;
            fault("pwfc".indexOf(first) >= 0 ? NONE : 3, "p1;" + first + "1;");
            fault(first == 'l' ? NONE : 3, "p1;" + first + "1,0;");
            fault(first == 'y' || "pwfc".indexOf(first) >= 0 ? NONE : 3, "p1;" + first + "2;");
        }
        fault(0, "y");
        fault(0, "pp1;");
        fault(0, "1;");
        fault(0, "1p;");
    }

    /** A sign with its highest bit set is none of those that an ITEM has. */
    private void everyByte() {
        checks.says("A TEXT is bytes (those above 127, too)");
        String text = "y5;l1,2;p3;w04;f2;c1;";
        fault(NONE, text);
        int start = 0;
        for (int i = 0; i < text.length(); i++) {
            StringBuilder other = new StringBuilder(text);
            other.setCharAt(i, (char) (text.charAt(i) | 128));
            fault(start, other.toString());
            other.setCharAt(i, '\0');
            fault(start, other.toString());
            other.setCharAt(i, '\u00ff');
            fault(start, other.toString());
            start = text.charAt(i) == ';' ? i + 1 : start;
        }
    }

    private void numbers() {
        checks.says("numbers (one or two figures)");
        sound("y4;", "y04;", "l1,2;", "l01,2;", "l1,02;", "l01,02;", "p5;", "p05;", "p55;", "f5;", "f05;", "f15;", "c5;", "c05;");
        for (String letter : new String[] {"y", "p", "f", "c"}) {
            for (String number : new String[] {"", "004", "000", "0004", "-4", "+4", "4 ", " 4", "4.", "/", ":", "4:", "/4", "4/", "0x4", "a", "4a"}) {
                fault(0, letter + number + ";");
            }
        }
        for (String number : new String[] {"", "001", "-1", " 1", "1 ", "/", ":", "x"}) {
            fault(0, "l" + number + ",2;");
            fault(0, "l2," + number + ";");
        }
    }

    private void partedByComma() {
        checks.says("numbers parted by ,");
        sound("l0,1;");
        for (String text : new String[] {"l0;1;", "l01;", "l0 1;", "l0,,1;", "l,0,1;", "l0,1,;", "l0,1,2;", "l0.1;", "l0-1;", "l0;", "l,;", "l;"}) {
            fault(0, text);
        }
        for (String letter : new String[] {"y", "p", "f", "c"}) {
            fault(0, letter + "2,;");
            fault(0, letter + ",2;");
            fault(0, letter + "2,3;");
        }
        fault(3, "p1;w0,1;");
        fault(3, "p1;w,;");
    }

    private void semicolonBehind() {
        checks.says("and ; (behind the last one, too)");
        String[] items = {"y4", "l0,1", "p1", "w0", "f1", "c1"};
        for (String item : items) {
            fault(NONE, "p1;" + item + ";");
            fault(3, "p1;" + item);
            fault(3, "p1;" + item + ",");
            fault(3, "p1;" + item + ":");
            fault(3, "p1;" + item + "p1;");
            fault(item.length() + 4, "p1;" + item + ";;");
        }
    }

    private void figuresOfAWay() {
        checks.says("S is one to twelve figures 0 to 7");
        for (int length = 0; length <= 20; length++) {
            for (char figure = '0'; figure <= '7'; figure++) {
                fault(length >= 1 && length <= 12 ? NONE : 3, "p1;w" + String.valueOf(figure).repeat(length) + ";");
            }
        }
        for (int sign = 0; sign < 256; sign++) {
            boolean isFigure = sign >= '0' && sign <= '7';
            fault(isFigure ? NONE : sign == ';' ? 6 : 3, "p1;w0" + (char) sign + ";");
            fault(isFigure ? NONE : 3, "p1;w" + (char) sign + ";");
        }
        fault(3, "p1;w01234567012");
        fault(3, "p1;w012345670123");
        fault(3, "p1;w");
    }

    private void yards() {
        checks.says("yN there are N YARDS (2 to 8)");
        for (int n = 0; n <= 99; n++) {
            boolean can = n >= 2 && n <= 8;
            fault(can ? NONE : 0, "y" + n + ";");
            if (can) {
                FollowingCalf x = checks.laid("y" + n + ";p1;");
                due("YARDS of y" + n, x.count(0), n);
                due("the last of them", x.far(n - 1, n - 1), 0);
                due("no other one", x.far(n, n), BAD);
            }
        }
    }

    private void fourYardsWithout() {
        checks.says("4 without");
        FollowingCalf x = checks.laid("p1;");
        due("YARDS", x.count(0), 4);
        due("far(3, 3)", x.far(3, 3), 0);
        due("far(4, 4)", x.far(4, 4), BAD);
        sound("l0,3;", "l3,0;");
        fault(0, "l0,4;");
        fault(0, "l4,0;");
        relaid(x, "y7;p1;");
        relaid(x, "p1;");
        due("not those of the farm ahead", x.count(0), 4);
    }

    private void noLaneAhead() {
        checks.says("no l told ahead of it");
        sound("y4;l0,1;", "p1;w0;f1;c0;y4;l0,1;", "y5;y4;l0,1;");
        fault(5, "l0,1;y4;");
        fault(5, "l0,1;y8;");
        fault(8, "y4;l0,1;y4;");
        fault(8, "l0,1;p1;y4;");
        fault(10, "l0,1;l1,2;y5;");
    }

    private void lanes() {
        checks.says("lA,B a LANE between YARDS A and B (unlike)");
        for (int n = 2; n <= 8; n++) {
            for (int a = 0; a <= 9; a++) {
                for (int b = 0; b <= 9; b++) {
                    fault(a != b && a < n && b < n ? NONE : 3, "y" + n + ";l" + a + "," + b + ";");
                }
            }
        }
        fault(3, "y8;l1,01;");
        fault(3, "y8;l10,1;");
        fault(3, "y8;l1,99;");
        FollowingCalf x = checks.laid("y8;l7,0;l0,7;l7,0;p1;");
        due("by one LANE", x.far(7, 0), 1);
        due("and back", x.far(0, 7), 1);
        relaid(x, "y8;l0,7;l0,1;p1;");
        relaid(x, "y8;l0,1;p1;");
        due("not those of the farm ahead", x.far(0, 7), NONE);
        due("but its own", x.far(0, 1), 1);
    }

    private void costs() {
        checks.says("pC a PERSON whose bread costs C (0 to 99)");
        for (int c = 0; c <= 99; c++) {
            due("cost", checks.laid("p" + c + ";").person(0, -1), c);
        }
        fault(0, "p100;");
        fault(0, "p099;");
        fault(0, "p-1;");
    }

    private void fivePersons() {
        checks.says("5 at most, 0, 1, ..");
        String text = "";
        for (int many = 1; many <= 5; many++) {
            text += "p" + 11 * many + ";w" + (many - 1) % 4 + ";";
            lay(many, text);
            FollowingCalf x = checks.laid(text);
            due("PERSONS", x.count(1), many);
            for (int i = 0; i < many; i++) {
                due("cost of " + i, x.person(i, -1), 11 * (i + 1));
                due("YARD of " + i, x.person(i, 3), i % 4);
            }
            due("no other one", x.person(many, -1), BAD);
            due("none ahead of 0", x.person(-1, -1), BAD);
        }
        fault(text.length(), text + "p1;");
        lay(NO, text + "p1;");
        fault(15, "p1;p2;p3;p4;p5;p6;p7;");
        fault(18, "p1;p2;p3;p4;p5;c0;p6;");
    }

    private void wayOfThePersonToldLast() {
        checks.says("wS the WAY of the PERSON told last");
        fault(0, "w0;");
        fault(0, "w0;p1;");
        fault(6, "y4;c0;w0;p1;");
        FollowingCalf x = checks.laid("p1;p1;w1;c0;f0;w2;p1;y5;w4;");
        due("PERSON 0 has none", x.person(0, 0), 0);
        due("PERSON 1", x.person(1, 0), 2);
        due("PERSON 2", x.person(2, 0), 4);
    }

    private void moduloHowMany() {
        checks.says("at minute t he is at the YARD that is figure t modulo how many of S");
        String figures = "712345607162";
        for (int length = 1; length <= 12; length++) {
            FollowingCalf x = checks.laid("y8;p1;w" + figures.substring(0, length) + ";");
            for (int t = 0; t <= 30; t++) {
                due("minute " + t + " of " + length, x.person(0, t), figures.charAt(t % length) - '0');
            }
            for (int t = 9970; t <= 9999; t++) {
                due("minute " + t + " of " + length, x.person(0, t), figures.charAt(t % length) - '0');
            }
        }
    }

    private void yardZeroWithout() {
        checks.says("at YARD 0 always without");
        FollowingCalf x = checks.laid("y8;c7;p1;w7;p2;");
        for (int t : new int[] {0, 1, 11, 12, 9999}) {
            due("minute " + t, x.person(1, t), 0);
        }
        relaid(x, "p1;w1;p2;w2;");
        relaid(x, "p1;p2;w3;");
        due("nor the WAY of the farm ahead", x.person(0, 0), 0);
        relaid(x, "p1;p2;");
        due("nor the WAY of the farm ahead", x.person(1, 0), 0);
    }

    private void lastWay() {
        checks.says("the last one of each");
        FollowingCalf x = checks.laid("p1;w012301230123;w3;p1;w1;w0123;p1;w2;w3;w1;");
        for (int t : new int[] {0, 1, 2, 3, 4, 11, 12}) {
            due("twelve, then one: minute " + t, x.person(0, t), 3);
            due("one, then four: minute " + t, x.person(1, t), t % 4);
            due("three told: minute " + t, x.person(2, t), 1);
        }
        fault(6, "p1;w0;w8;");
        fault(3, "p1;w8;w0;");
    }

    private void forgetsAtMost() {
        checks.says("fF it FORGETS behind F minutes (1 to 20; 0: never)");
        for (int f = 0; f <= 99; f++) {
            fault(f <= 20 ? NONE : 3, "p1;f" + f + ";");
        }
        for (int f = 1; f <= 20; f++) {
            FollowingCalf x = checks.laid("p1;f" + f + ";");
            x.feed(0);
            due("F " + f + ": a minute ahead", x.calf(f - 1, 1), 0);
            due("F " + f + ": now", x.calf(f, 1), NONE);
        }
        FollowingCalf never = checks.laid("p1;f0;");
        never.feed(0);
        for (int n : new int[] {1, 2, 20, 21, 399, 400}) {
            due("F 0: minute " + n, never.calf(n, 1), 0);
        }
    }

    private void forgetsWithoutAndLast() {
        checks.says("fF: 0 without; the last one");
        FollowingCalf x = checks.laid("p1;");
        x.feed(0);
        due("without", x.calf(400, 1), 0);
        FollowingCalf y = checks.laid("f20;p1;f3;");
        y.feed(0);
        due("the last one: minute 2", y.calf(2, 1), 0);
        due("the last one: minute 3", y.calf(3, 1), NONE);
        FollowingCalf z = checks.laid("f1;f0;p1;");
        z.feed(0);
        due("the last one is 0", z.calf(400, 1), 0);
        relaid(y, "f2;p1;");
        relaid(y, "p1;");
        y.feed(0);
        due("not that of the farm ahead", y.calf(400, 1), 0);
        fault(3, "f1;f21;f2;");
    }

    private void calfAt() {
        checks.says("cY THE CALF is at YARD Y (0 to 7) at first");
        for (int y = 0; y <= 99; y++) {
            fault(y <= 7 ? NONE : 3, "y8;c" + y + ";");
            fault(y <= 7 ? NONE : 0, "c" + y + ";");
        }
        for (int y = 0; y <= 7; y++) {
            due("YARD " + y, checks.laid("y8;p1;c" + y + ";").calf(0, 0), y);
        }
    }

    private void calfWithoutAndLast() {
        checks.says("cY: 0 without; the last one");
        FollowingCalf x = checks.laid("y8;p1;c5;c7;c6;");
        due("the last one", x.calf(0, 0), 6);
        relaid(x, "y8;p1;c5;");
        relaid(x, "y8;p1;");
        due("without", x.calf(0, 0), 0);
        due("the last one is 0", checks.laid("c3;c0;p1;").calf(0, 0), 0);
        fault(3, "c1;c8;c1;");
    }

    private void firstFault() {
        checks.says("FAULT: the place of the first byte of the first ITEM that is not so");
        for (int ahead = 0; ahead < 100; ahead++) {
            fault(3 * ahead, "c0;".repeat(ahead) + "c8;" + "q;".repeat((297 - 3 * ahead) / 2));
        }
        fault(0, "y9;y9;");
        fault(4, "p10;w0120129;w9;");
        fault(7, "p10;p9;l0,10;");
        fault(3, "y2;l1,2;y9;");
        fault(3, "p1;c0");
    }

    private void laidWithoutFault() {
        checks.says("LAID is a TEXT without FAULT (NO else)");
        lay(1, "p1;");
        for (String text : new String[] {"p1", "p1;q", "qp1;", "p1;y9;", "p1;l0,4;", "p1;w8;", "w0;p1;", "p1;f21;", "p1;c8;",
            "p1;l0,1;y4;", "p1;p1;p1;p1;p1;p1;"}) {
            lay(NO, text);
        }
    }

    private void laidWithAPerson() {
        checks.says("of a PERSON at least (NO else)");
        lay(NO, "");
        lay(NO, "y4;l0,1;f1;c1;");
        lay(1, "y4;l0,1;f1;c1;p0;");
    }

    private void laidYardsOfWays() {
        checks.says("whose YARDS of w there are (NO else)");
        for (int n = 2; n <= 8; n++) {
            for (int yard = 0; yard <= 7; yard++) {
                int want = yard < n ? 1 : NO;
                lay(want, "y" + n + ";p1;w" + yard + ";");
                lay(want, "p1;w" + yard + ";y" + n + ";");
                lay(want, "y" + n + ";p1;w00000000000" + yard + ";");
                lay(want, "y" + n + ";p1;w" + yard + "00000000000;");
                lay(yard < n ? 5 : NO, "y" + n + ";p1;p1;p1;p1;p1;w" + yard + ";");
                lay(yard < n ? 2 : NO, "y" + n + ";p1;w" + yard + ";p1;w0;");
            }
        }
        lay(1, "p1;w3;");
        lay(NO, "p1;w4;");
        fault(NONE, "p1;w4;");
    }

    private void laidYardOfTheCalf() {
        checks.says("whose YARD of c there is (NO else)");
        for (int n = 2; n <= 8; n++) {
            for (int yard = 0; yard <= 7; yard++) {
                lay(yard < n ? 1 : NO, "y" + n + ";p1;c" + yard + ";");
                lay(yard < n ? 1 : NO, "c" + yard + ";p1;y" + n + ";");
            }
        }
        lay(1, "p1;c3;");
        lay(NO, "p1;c4;");
        fault(NONE, "p1;c4;");
    }

    /** An object that has lived: minutes, feeds, GOALS, SIGHTS, all that can be UNDONE, KEPT. */
    private FollowingCalf lived() {
        FollowingCalf x = checks.laid("y3;c1;f9;l0,1;l1,2;p3;w1;p4;w10;");
        x.keep();
        for (int k = 0; k < 4; k++) {
            x.feed(0);
            x.pass(2);
        }
        x.pass(1);
        x.keep();
        for (int k = 0; k < 6; k++) {
            x.goal(1, k);
            x.seen(1, k);
        }
        return x;
    }

    private void layAnew() {
        checks.says("minute 0, no GOALS, SIGHTS, nothing UNDONE, KEPT");
        FollowingCalf x = lived();
        due("minute ahead", x.count(2), 9);
        due("GOALS, SIGHTS, UNDONE, KEPT ahead", x.count(3) * 1000 + x.count(4) * 100 + x.count(5) * 10 + x.count(6), 6682);
        due("lay()", x.lay(), 2);
        for (int what = 2; what <= 6; what++) {
            due("count(" + what + ")", x.count(what), 0);
        }
        due("undo()", x.undo(), NO);
        due("back()", x.back(), NO);
        due("noGoals()", x.noGoals(), 0);
        due("forget()", x.forget(), 0);
        due("how()", x.how(), 1);
        due("it follows nobody", x.calf(0, 1), NONE);
        due("it is at its first YARD", x.calf(0, 0), 1);
        due("it was never fed", x.feed(0), 1);
        due("THE TEXT stays", x.count(7), 32);
        due("GOALS can be told anew", x.goal(1, 1), 1);
        due("SIGHTS can be told anew", x.seen(1, 1), 1);
        due("it can be KEPT anew", x.keep(), 1);
    }

    private void layRefused() {
        checks.says("lay: NO; nothing changes then");
        for (String text : new String[] {"", "y4;", "p1", "y5;p1;w5;", "p1;c4;", "y8;l0,7;f1;c7;p9;w7;p9;w7;p9;w7;q"}) {
            FollowingCalf x = Checks.written(lived(), text);
            due("lay() of " + text, x.lay(), NO);
            due("YARDS", x.count(0), 3);
            due("PERSONS", x.count(1), 2);
            due("minute", x.count(2), 9);
            due("GOALS", x.count(3), 6);
            due("SIGHTS", x.count(4), 6);
            due("UNDONE", x.count(5), 8);
            due("KEPT", x.count(6), 2);
            due("cost", x.person(1, -1), 4);
            due("WAY", x.person(1, 0) * 10 + x.person(1, 1), 10);
            due("LANES", x.far(0, 2), 2);
            due("it follows", x.calf(0, 1), 0);
            due("it FORGETS as it did", x.calf(5, 1), 0);
            due("it FORGETS as it did", x.calf(6, 1), NONE);
            due("how often it was fed", x.feed(0), 5);
        }
    }

    private void far() {
        checks.says("By how many LANES one YARD is from another one. BAD");
        for (int n = 2; n <= 8; n++) {
            StringBuilder row = new StringBuilder("p1;y" + n + ";");
            for (int a = 1; a < n; a++) {
                row.append("l").append(a).append(",").append(a - 1).append(";");
            }
            FollowingCalf x = checks.laid(row.toString());
            for (int a = -1; a <= n; a++) {
                for (int b = -1; b <= n; b++) {
                    boolean are = a >= 0 && a < n && b >= 0 && b < n;
                    due("far(" + a + ", " + b + ")", x.far(a, b), are ? Math.abs(a - b) : BAD);
                }
            }
            due("far(MIN, 0)", x.far(Integer.MIN_VALUE, 0), BAD);
            due("far(0, MAX)", x.far(0, Integer.MAX_VALUE), BAD);
        }
        for (int hub = 0; hub < 8; hub++) {
            StringBuilder star = new StringBuilder("y8;p1;");
            for (int a = 0; a < 8; a++) {
                star.append(a == hub ? "" : "l" + a + "," + hub + ";");
            }
            FollowingCalf x = checks.laid(star.toString());
            for (int a = 0; a < 8; a++) {
                for (int b = 0; b < 8; b++) {
                    due("by way of " + hub, x.far(a, b), a == b ? 0 : a == hub || b == hub ? 1 : 2);
                }
            }
        }
        FollowingCalf winding = checks.laid("y8;p1;l3,0;l0,7;l7,1;l1,6;l6,2;l2,5;l5,4;");
        int[] places = {3, 0, 7, 1, 6, 2, 5, 4};
        for (int a = 0; a < 8; a++) {
            for (int b = 0; b < 8; b++) {
                due("a winding row", winding.far(places[a], places[b]), Math.abs(a - b));
            }
        }
        FollowingCalf ring = checks.laid("y8;p1;l0,1;l1,2;l2,3;l3,4;l4,5;l5,6;l6,7;l7,0;");
        for (int b = 0; b < 8; b++) {
            due("round the shorter way to " + b, ring.far(0, b), Math.min(b, 8 - b));
        }
    }

    private void farNone() {
        checks.says("far: NONE");
        FollowingCalf x = checks.laid("p1;");
        for (int a = 0; a < 4; a++) {
            for (int b = 0; b < 4; b++) {
                due("no LANES: far(" + a + ", " + b + ")", x.far(a, b), a == b ? 0 : NONE);
            }
        }
        FollowingCalf y = checks.laid("y8;p1;l7,6;l0,1;l1,2;");
        due("in one part", y.far(0, 2), 2);
        due("from one part to the other", y.far(2, 7), NONE);
        due("and back", y.far(6, 0), NONE);
        due("a YARD without LANES", y.far(4, 6), NONE);
        due("BAD, though no LANES lead there", y.far(0, 8), BAD);
    }

    private void person() {
        checks.says("what his bread costs (what = -1), at which YARD he is at minute what (0 to 9999). BAD");
        FollowingCalf x = checks.laid("p30;w12;p40;w3;");
        due("what -1", x.person(0, -1), 30);
        due("what 0", x.person(0, 0), 1);
        due("what 9999", x.person(0, 9999), 2);
        for (int what : new int[] {-2, -3, 10000, 10001, Integer.MIN_VALUE, Integer.MAX_VALUE}) {
            due("what " + what, x.person(0, what), BAD);
        }
        for (int i : new int[] {-1, 2, 3, 5, Integer.MIN_VALUE, Integer.MAX_VALUE}) {
            due("PERSON " + i, x.person(i, -1), BAD);
            due("PERSON " + i, x.person(i, 0), BAD);
        }
        x.pass(1);
        due("at minute what, whatever is now", x.person(0, 0), 1);
    }
}
