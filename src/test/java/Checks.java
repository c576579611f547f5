/** What all tests share: answers compared, texts written, an end with exit code 1. */
final class Checks {
    private int made;
    private int wrong;
    private int sentences;
    private int madeAhead;
    private String sentence = "";

    /** The checks from here on are those of this sentence of the document. */
    void says(String words) {
        endSentence();
        sentence = words;
        sentences++;
        madeAhead = made;
    }

    private void endSentence() {
        if (sentences > 0 && made == madeAhead) {
            wrong++;
            System.out.println("no check stands for: " + sentence);
        }
    }

    void due(String what, long got, long want) {
        made++;
        if (got != want) {
            wrong++;
            String told = sentence.isEmpty() ? "" : " (\"" + sentence + "\")";
            System.out.println(what + " answered " + got + ", due is " + want + told);
        }
    }

    void due(String what, boolean holds) {
        due(what, holds ? 1 : 0, 1);
    }

    static FollowingCalf written(FollowingCalf x, String text) {
        x.wipe();
        for (int from = 0; from < text.length(); from += 8) {
            int to = Math.min(from + 8, text.length());
            long v = 0;
            for (int i = from; i < to; i++) {
                v = v << 8 | text.charAt(i) & 255;
            }
            x.write(to - from, v);
        }
        return x;
    }

    FollowingCalf laid(String text) {
        FollowingCalf x = written(new FollowingCalf(), text);
        due("lay() of " + text, x.lay() > 0);
        return x;
    }

    /** Passes minutes up to the one that is told, by as few calls as can be. */
    static FollowingCalf at(FollowingCalf x, int minute) {
        int now = x.count(2);
        while (now < minute) {
            int n = Math.min(99, minute - now);
            if (x.pass(n) < 0) {
                throw new IllegalStateException("pass(" + n + ") is refused at minute " + now);
            }
            now += n;
        }
        return x;
    }

    void end(String name) {
        endSentence();
        String told = sentences > 0 ? sentences + " sentences, " : "";
        System.out.println(name + ": " + told + made + " checks, " + wrong + " wrong");
        if (wrong != 0) {
            System.exit(1);
        }
    }
}
