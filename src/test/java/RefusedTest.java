import java.util.ArrayList;
import java.util.List;

/**
 * "BAD: a number is none that is told. NO: not as things stand. NONE: there is none. FULL. Of several
 * the first; nothing changes then": every number of every call just within and just without what is
 * told, and every refused call, on objects with several pasts.
 */
public final class RefusedTest {
    private static final int BAD = -1, NO = -2, FULL = -3, NONE = -4;

    /** A call with its name; each number of it runs from low to high. */
    private interface Asked {
        long answer(FollowingCalf x, int[] numbers);
    }

    private record Face(String name, Asked asked, int[] low, int[] high) { }

    private record PastTold(String name, Twins.Past past) { }

    private final Checks checks = new Checks();
    private final List<PastTold> pasts = new ArrayList<>();

    public static void main(String[] args) {
        RefusedTest test = new RefusedTest();
        test.tellPasts();
        test.numbersJustWithin();
        test.numbersJustWithout();
        test.badChangesNothing();
        test.badAheadOfAll();
        test.noChangesNothing();
        test.fullChangesNothing();
        test.askingChangesNothing();
        test.othersDoChange();
        test.checks.end("RefusedTest");
    }

    private void tellPasts() {
        pasts.add(new PastTold("new", FollowingCalf::new));
        pasts.add(new PastTold("smallest", () -> checks.laid("y2;p0;")));
        pasts.add(new PastTold("fullest", this::fullest));
        pasts.add(new PastTold("last minute", this::lastMinute));
        pasts.add(new PastTold("text at fault", () -> Checks.written(going(), "y8;p9;p9;p9;l0,8;")));
        pasts.add(new PastTold("going", this::going));
    }

    /** All there is at the most: YARDS, PERSONS, GOALS, SIGHTS, UNDONE, KEPT, bytes. */
    private FollowingCalf fullest() {
        String text = "y8;l0,1;l1,2;l2,3;l3,4;l4,5;l5,6;l6,7;l7,0;f20;p1;w01;p2;w07;p3;w0123;p4;w076;p99;";
        int room = 300 - text.length();
        return livedOn(checks.laid(text + "c00;".repeat(room % 3) + "c0;".repeat(room / 3 - room % 3)));
    }

    private FollowingCalf going() {
        return livedOn(checks.laid("y4;f3;l0,1;l1,2;l2,3;p1;w01;p2;w0;p9;w0123;"));
    }

    private FollowingCalf livedOn(FollowingCalf x) {
        x.keep();
        for (int k = 0; k < 5; k++) {
            x.feed(k % 2);
            x.pass(1);
        }
        x.keep();
        x.feed(2);
        for (int k = 0; k < 6; k++) {
            x.goal(k < 3 ? 0 : 1, 40 - 2 * k);
            x.seen(k < 3 ? 0 : 1, 20 - 2 * k);
        }
        return x;
    }

    private FollowingCalf lastMinute() {
        FollowingCalf x = Checks.at(checks.laid("y3;l0,1;l1,2;p5;w01;p6;w0;"), 9998);
        x.feed(0);
        x.pass(1);
        x.goal(0, 1);
        return x;
    }

    /** Every call that has numbers, with what is told of each of them. */
    private List<Face> faces(FollowingCalf x) {
        int yard = x.count(0) - 1;
        int person = x.count(1) - 1;
        int bits = (2 << person) - 1;
        List<Face> all = new ArrayList<>();
        all.add(new Face("write", (y, a) -> y.write(a[0], 0L), of(1), of(8)));
        all.add(new Face("far", (y, a) -> y.far(a[0], a[1]), of(0, 0), of(yard, yard)));
        all.add(new Face("person", (y, a) -> y.person(a[0], a[1]), of(0, -1), of(person, 9999)));
        all.add(new Face("feed", (y, a) -> y.feed(a[0]), of(0), of(person)));
        all.add(new Face("pass", (y, a) -> y.pass(a[0]), of(1), of(99)));
        all.add(new Face("calf", (y, a) -> y.calf(a[0], a[1]), of(0, 0), of(400, 1)));
        all.add(new Face("goal", (y, a) -> y.goal(a[0], a[1]), of(0, 0), of(yard, 40)));
        all.add(new Face("game", (y, a) -> y.game(a[0], a[1], a[2], a[3]), of(1, 0, 0, 0), of(12, yard, bits, 1)));
        all.add(new Face("seen", (y, a) -> y.seen(a[0], a[1]), of(0, 0), of(yard, 20)));
        all.add(new Face("sure", (y, a) -> y.sure(a[0]), of(0), of(person)));
        all.add(new Face("chance", (y, a) -> y.chance(a[0], a[1], a[2]), of(0, 0, 0), of(yard, 6, 1)));
        all.add(new Face("year", (y, a) -> y.year(a[0], a[1], a[2]), of(0, 1, 0), of(9999, 400, 1)));
        all.add(new Face("count", (y, a) -> y.count(a[0]), of(0), of(7)));
        return all;
    }

    private static int[] of(int... numbers) {
        return numbers;
    }

    private static String told(Face face, int[] numbers) {
        StringBuilder told = new StringBuilder(face.name()).append("(");
        for (int i = 0; i < numbers.length; i++) {
            told.append(i == 0 ? "" : ", ").append(numbers[i]);
        }
        return told.append(")").toString();
    }

    /** The numbers of a call, each at its low end, its high end, or between, by the figures of a code. */
    private static int[] within(Face face, int code) {
        int[] numbers = face.low().clone();
        int rest = code;
        for (int i = 0; i < numbers.length; i++) {
            int low = face.low()[i];
            int high = face.high()[i];
            numbers[i] = switch (rest % 4) {
                case 0 -> low;
                case 1 -> high;
                case 2 -> Math.min(low + 1, high);
                default -> Math.max(high - 1, low);
            };
            rest /= 4;
        }
        return numbers;
    }

    private static int codes(Face face) {
        return 1 << 2 * face.low().length;
    }

    private static int[] without(Face face, int i) {
        int low = face.low()[i];
        int high = face.high()[i];
        return of(low - 1, low - 2, high + 1, high + 2, low - 256, high + 256, high + 65536, -1 << 30, 1 << 30,
                Integer.MIN_VALUE, Integer.MIN_VALUE + low, Integer.MIN_VALUE + high + 1, Integer.MAX_VALUE);
    }

    private void numbersJustWithin() {
        checks.says("a number that is told is not BAD");
        for (PastTold told : pasts) {
            for (Face face : faces(told.past().lived())) {
                for (int code = 0; code < codes(face); code++) {
                    int[] numbers = within(face, code);
                    long answer = face.asked().answer(told.past().lived(), numbers);
                    checks.due(told.name() + ": " + told(face, numbers) + " is not BAD", answer != BAD);
                }
            }
        }
    }

    private void numbersJustWithout() {
        checks.says("BAD: a number is none that is told (YARDS, PERSONS: such as there are)");
        for (PastTold told : pasts) {
            FollowingCalf x = told.past().lived();
            for (Face face : faces(x)) {
                for (int i = 0; i < face.low().length; i++) {
                    for (int number : without(face, i)) {
                        int[] numbers = within(face, number & 255);
                        numbers[i] = number;
                        checks.due(told.name() + ": " + told(face, numbers), face.asked().answer(told.past().lived(), numbers), BAD);
                    }
                }
            }
        }
    }

    private void badChangesNothing() {
        checks.says("BAD: nothing changes then");
        for (PastTold told : pasts) {
            for (Face face : faces(told.past().lived())) {
                for (int i = 0; i < face.low().length; i++) {
                    for (int number : of(face.low()[i] - 1, face.high()[i] + 1)) {
                        int[] numbers = within(face, 1 << 2 * i);
                        numbers[i] = number;
                        unchanged(told, told(face, numbers), BAD, x -> face.asked().answer(x, numbers));
                    }
                }
            }
        }
    }

    private void unchanged(PastTold told, String name, long want, Twins.Call call) {
        checks.due(told.name() + ": " + name, call.asked(told.past().lived()), want);
        checks.due(told.name() + ": nothing changes by " + name, Twins.isWithoutEffect(told.past(), call));
    }

    private void badAheadOfAll() {
        checks.says("Of several the first");
        FollowingCalf full = fullest();
        for (int what = 0; what < 8; what++) {
            checks.due("the fullest: count(" + what + ")", full.count(what), of(8, 5, 5, 6, 6, 8, 2, 300)[what]);
        }
        checks.due("write: BAD, FULL", full.write(9, 0L), BAD);
        checks.due("write: FULL", full.write(8, 0L), FULL);
        checks.due("goal: BAD, FULL", full.goal(8, 0), BAD);
        checks.due("goal: BAD, FULL", full.goal(0, 41), BAD);
        checks.due("goal: FULL", full.goal(0, 40), FULL);
        checks.due("seen: BAD, FULL", full.seen(8, 0), BAD);
        checks.due("seen: BAD, FULL", full.seen(0, 21), BAD);
        checks.due("seen: FULL", full.seen(0, 20), FULL);
        FollowingCalf last = lastMinute();
        checks.due("pass: BAD, NO", last.pass(100), BAD);
        checks.due("pass: BAD, NO", last.pass(0), BAD);
        checks.due("pass: NO", last.pass(99), NO);
        FollowingCalf alone = checks.laid("p1;w1;");
        checks.due("feed: BAD, NO", alone.feed(1), BAD);
        checks.due("feed: NO", alone.feed(0), NO);
        checks.due("far: NONE", alone.far(0, 3), NONE);
        checks.due("far: BAD, where no LANES lead", alone.far(0, 4), BAD);
        checks.due("calf: BAD, NONE", alone.calf(401, 1), BAD);
        checks.due("game: BAD, NONE", alone.game(13, 0, 0, 1), BAD);
    }

    private void noChangesNothing() {
        checks.says("NO: not as things stand; nothing changes then");
        for (PastTold told : pasts) {
            FollowingCalf x = told.past().lived();
            for (int i = 0; i < x.count(1); i++) {
                int one = i;
                if (x.person(i, x.count(2)) != x.calf(0, 0)) {
                    unchanged(told, "feed(" + i + ")", NO, y -> y.feed(one));
                }
            }
            if (x.count(5) == 0) {
                unchanged(told, "undo()", NO, FollowingCalf::undo);
            }
            if (x.count(6) == 0) {
                unchanged(told, "back()", NO, FollowingCalf::back);
            }
            if (x.fault() != NONE || x.count(7) == 0) {
                unchanged(told, "lay()", NO, FollowingCalf::lay);
            }
            for (int n = 1; n <= 99 && x.count(2) == 9999; n++) {
                int minutes = n;
                unchanged(told, "pass(" + n + ")", NO, y -> y.pass(minutes));
            }
        }
        for (String text : new String[] {"p1;w7;", "p1;c7;", "y8;y2;f1;p9;p9;p9;p9;p9;w7;c1;", "y8;l0,7;c7;"}) {
            PastTold told = new PastTold("text " + text, () -> Checks.written(going(), text));
            unchanged(told, "lay()", NO, FollowingCalf::lay);
        }
    }

    private void fullChangesNothing() {
        checks.says("FULL; nothing changes then");
        PastTold told = new PastTold("fullest", this::fullest);
        for (int n = 1; n <= 8; n++) {
            int bytes = n;
            unchanged(told, "write(" + n + ", ..)", FULL, x -> x.write(bytes, -1L));
        }
        for (int yard = 0; yard < 8; yard++) {
            int one = yard;
            unchanged(told, "goal(" + yard + ", 0)", FULL, x -> x.goal(one, 0));
            unchanged(told, "seen(" + yard + ", 20)", FULL, x -> x.seen(one, 20));
        }
        unchanged(told, "keep()", FULL, FollowingCalf::keep);
    }

    private void askingChangesNothing() {
        checks.says("an answer of NONE, or any other to a question: nothing changes");
        List<String> changing = List.of("write", "feed", "pass", "goal", "seen");
        for (PastTold told : pasts) {
            for (Face face : faces(told.past().lived())) {
                for (int code = 0; code < codes(face) && !changing.contains(face.name()); code += 3) {
                    int[] numbers = within(face, code);
                    Twins.Call call = x -> face.asked().answer(x, numbers);
                    checks.due(told.name() + ": nothing changes by " + told(face, numbers),
                            Twins.isWithoutEffect(told.past(), call));
                }
            }
            checks.due(told.name() + ": fault()", Twins.isWithoutEffect(told.past(), FollowingCalf::fault));
            checks.due(told.name() + ": price()", Twins.isWithoutEffect(told.past(), FollowingCalf::price));
            checks.due(told.name() + ": first()", Twins.isWithoutEffect(told.past(), FollowingCalf::first));
            checks.due(told.name() + ": bars()", Twins.isWithoutEffect(told.past(), FollowingCalf::bars));
            checks.due(told.name() + ": how()", Twins.isWithoutEffect(told.past(), FollowingCalf::how));
        }
    }

    /** Were the twins looked over too lightly, the checks above would be worth nothing. */
    private void othersDoChange() {
        checks.says("a call that is not refused changes something");
        Twins.Past going = this::going;
        checks.due("write", !Twins.isWithoutEffect(going, x -> x.write(1, ';')));
        checks.due("wipe", !Twins.isWithoutEffect(going, FollowingCalf::wipe));
        checks.due("lay", !Twins.isWithoutEffect(going, FollowingCalf::lay));
        checks.due("feed", !Twins.isWithoutEffect(going, x -> x.feed(0)));
        checks.due("pass", !Twins.isWithoutEffect(going, x -> x.pass(1)));
        checks.due("undo", !Twins.isWithoutEffect(going, FollowingCalf::undo));
        checks.due("noGoals", !Twins.isWithoutEffect(going, FollowingCalf::noGoals));
        checks.due("forget", !Twins.isWithoutEffect(going, FollowingCalf::forget));
        checks.due("back", !Twins.isWithoutEffect(going, FollowingCalf::back));
        Twins.Past fresh = FollowingCalf::new;
        checks.due("goal", !Twins.isWithoutEffect(fresh, x -> x.goal(1, 1)));
        checks.due("seen", !Twins.isWithoutEffect(fresh, x -> x.seen(1, 1)));
        checks.due("keep", !Twins.isWithoutEffect(fresh, FollowingCalf::keep));
    }
}
