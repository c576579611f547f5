/** What all tests share: answers compared, texts written, an end with exit code 1. */
final class Checks {
    private int made;
    private int wrong;

    void due(String what, long got, long want) {
        made++;
        if (got != want) {
            wrong++;
            System.out.println(what + " answered " + got + ", due is " + want);
        }
    }

    void due(String what, boolean holds) {
        due(what, holds ? 1 : 0, 1);
    }

    static FollowingCalf written(FollowingCalf x, String text) {
        x.wipe();
        for (int from = 0; from < text.length(); from += 8) {
            int to = Math.min(from + 8, text.length());
            long v = 0;
            for (int i = from; i < to; i++) {
                v = v << 8 | text.charAt(i) & 255;
            }
            x.write(to - from, v);
        }
        return x;
    }

    FollowingCalf laid(String text) {
        FollowingCalf x = written(new FollowingCalf(), text);
        due("lay() of " + text, x.lay() > 0);
        return x;
    }

    void end(String name) {
        System.out.println(name + ": " + made + " checks, " + wrong + " wrong");
        if (wrong != 0) {
            System.exit(1);
        }
    }
}
