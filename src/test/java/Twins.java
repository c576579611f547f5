import java.util.ArrayList;
import java.util.List;

/** Two objects with one past, of which one makes a call more: then both are looked over. */
final class Twins {
    interface Past {
        FollowingCalf lived();
    }

    interface Call {
        long asked(FollowingCalf x);
    }

    private Twins() {
    }

    /** Whether the call changes nothing of all that can be asked, also from what was KEPT or UNDONE. */
    static boolean isWithoutEffect(Past past, Call call) {
        for (int order = 0; order < 3; order++) {
            FollowingCalf one = past.lived();
            FollowingCalf other = past.lived();
            call.asked(one);
            if (!lookedOver(one, order).equals(lookedOver(other, order))) {
                return false;
            }
        }
        return true;
    }

    /** All answers, what is now first, then what was, in one of three orders. */
    private static List<Long> lookedOver(FollowingCalf x, int order) {
        List<Long> answers = new ArrayList<>();
        lookAtFarm(x, answers);
        lookAtNow(x, answers);
        if (order == 0) {
            feedAll(x, answers);
        }
        if (order == 1) {
            undoAll(x, answers);
        }
        backAll(x, answers);
        lookAtTold(x, answers);
        return answers;
    }

    private static void lookAtFarm(FollowingCalf x, List<Long> answers) {
        for (int what = 0; what <= 7; what++) {
            answers.add((long) x.count(what));
        }
        answers.add((long) x.fault());
        for (int a = 1; a < x.count(0); a++) {
            answers.add((long) x.far(a - 1, a));
            answers.add((long) x.far(0, a));
        }
        for (int i = 0; i < x.count(1); i++) {
            for (int what = -1; what < 12; what++) {
                answers.add((long) x.person(i, what));
            }
        }
    }

    private static void lookAtNow(FollowingCalf x, List<Long> answers) {
        for (int n = 0; n <= 21; n++) {
            answers.add((long) x.calf(n, n % 2));
            answers.add((long) x.calf(n, 1 - n % 2));
        }
        lookAtGoals(x, answers);
        answers.add(x.how());
        for (int i = 0; i < x.count(1); i++) {
            answers.add((long) x.sure(i));
        }
        for (int yard = 0; yard < x.count(0); yard++) {
            answers.add((long) x.game(3, yard, 1, 0));
            answers.add(x.chance(yard, 2, 0));
        }
        answers.add((long) x.year(7, 50, 0));
        answers.add((long) x.year(7, 50, 1));
    }

    private static void lookAtGoals(FollowingCalf x, List<Long> answers) {
        answers.add((long) x.price());
        answers.add((long) x.first());
        answers.add((long) x.bars());
    }

    private static void feedAll(FollowingCalf x, List<Long> answers) {
        for (int i = 0; i < x.count(1); i++) {
            answers.add((long) x.feed(i));
        }
    }

    private static void undoAll(FollowingCalf x, List<Long> answers) {
        for (int k = 0; k < 9; k++) {
            answers.add((long) x.undo());
            answers.add((long) x.count(2));
            answers.add((long) x.calf(0, 0));
            answers.add((long) x.calf(0, 1));
            answers.add((long) x.calf(1, 1));
            lookAtGoals(x, answers);
        }
        feedAll(x, answers);
    }

    private static void backAll(FollowingCalf x, List<Long> answers) {
        for (int k = 0; k < 3; k++) {
            answers.add((long) x.back());
            answers.add((long) x.count(2));
            answers.add((long) x.calf(0, 0));
            answers.add((long) x.calf(0, 1));
            answers.add((long) x.calf(1, 1));
            feedAll(x, answers);
        }
    }

    private static void lookAtTold(FollowingCalf x, List<Long> answers) {
        answers.add((long) x.write(1, ';'));
        answers.add((long) x.fault());
        answers.add((long) x.goal(0, 0));
        answers.add((long) x.seen(0, 0));
        answers.add((long) x.keep());
        answers.add((long) x.lay());
        answers.add((long) x.wipe());
        answers.add((long) x.noGoals());
        answers.add((long) x.forget());
    }
}
