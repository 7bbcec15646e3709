/** Counts and prints every answer that is not the one that is due. */
final class Checks {
    static final int NONE = -1;
    static final int UNKNOWN = -1000000001;
    static final int OUTSIDE = -1000000002;
    static final int NOT = -1000000003;
    static final int FULL = -1000000004;

    /** Calls that lead an object to where a test wants it. */
    interface Way {
        void lead(SevenBlows x);
    }

    /** One call, for its answer. */
    interface Call {
        int of(SevenBlows x);
    }

    private int wrong;
    private int made;

    void due(String call, long want, long got) {
        made++;
        if (want != got) {
            wrong++;
            System.out.println(call + " answered " + got + ", due is " + want);
        }
    }

    void same(String what, String want, String got) {
        made++;
        if (!want.equals(got)) {
            wrong++;
            System.out.println(what + " is\n    " + got + ", due is\n    " + want);
        }
    }

    void holds(String what, boolean so) {
        due(what, 1, so ? 1 : 0);
    }

    /** Ends the program, with exit code 1 if an answer was wrong. */
    void end() {
        System.out.println(made + " checks, " + wrong + " wrong");
        if (wrong > 0 || made == 0) {
            System.exit(1);
        }
    }

    static void feed(SevenBlows x, String text) {
        for (int i = 0; i < text.length(); i++) {
            x.feed(text.charAt(i));
        }
    }

    /** A new object with the land that the text tells. */
    SevenBlows land(String text) {
        SevenBlows x = new SevenBlows();
        feed(x, text);
        holds("land of " + text, x.land() >= 0);
        return x;
    }

    /** A text with '^' ahead of the letter that has the fault. */
    void faulty(int number, String marked) {
        int place = marked.indexOf('^');
        String text = marked.substring(0, place) + marked.substring(place + 1);
        SevenBlows x = new SevenBlows();
        feed(x, text);
        due("land of " + marked, -10 - number, x.land());
        due("fault of " + marked, place, x.fault());
        due("text after " + marked, 0, x.told(5));
        due("people after " + marked, 0, x.told(0));
    }

    /** The call gets the refusal that is due, and the object stays as one that was led alike and not asked. */
    void refused(String call, int refusal, Way way, Call asked) {
        SevenBlows x = new SevenBlows();
        SevenBlows like = new SevenBlows();
        way.lead(x);
        way.lead(like);
        due(call, refusal, asked.of(x));
        same("after the refused " + call + " all", whole(like), whole(x));
    }

    /** All that can be asked without a change, but for the land's own numbers, in one text. */
    static String all(SevenBlows x) {
        return state(x) + "; fault " + x.fault();
    }

    /** All but the place of the fault. */
    static String state(SevenBlows x) {
        StringBuilder s = new StringBuilder();
        for (int what = 0; what <= 8; what++) {
            s.append(x.told(what)).append(' ');
        }
        s.append(x.judge());
        int people = x.told(0);
        int fighters = x.told(1);
        for (int f = 0; f < fighters; f++) {
            s.append("; f");
            for (int what = 0; what <= 6; what++) {
                s.append(' ').append(x.fighter(f, what));
            }
            for (int p = 0; p < people; p++) {
                s.append(' ').append(x.thinks(p, f));
            }
        }
        int seed = x.seed(0);
        x.seed(seed);
        return s.append("; seed ").append(seed).toString();
    }

    /** The land's own numbers, which no deed changes. */
    static String ground(SevenBlows x) {
        StringBuilder s = new StringBuilder("chats");
        int people = x.told(0);
        int tasks = x.told(3);
        int tricks = x.told(4);
        for (int p = 0; p < people; p++) {
            s.append(' ').append(x.chats(p));
        }
        for (int t = 0; t < tasks; t++) {
            s.append("; t");
            for (int what = 0; what <= 4; what++) {
                s.append(' ').append(x.task(t, what));
            }
        }
        for (int r = 0; r < tricks; r++) {
            s.append("; r");
            for (int what = 0; what <= 2; what++) {
                s.append(' ').append(x.trick(r, what));
            }
        }
        return s.toString();
    }

    /** All that an object holds, its images and its text too; it is of no more use behind that. */
    private static String whole(SevenBlows x) {
        StringBuilder s = new StringBuilder(all(x)).append(" | ").append(ground(x));
        for (int i = 0; i < 2; i++) {
            s.append(" | image ").append(x.goBack(i)).append(": ").append(all(x));
        }
        s.append(" | its text: ").append(x.land()).append(": ").append(all(x));
        return s.append(", ").append(ground(x)).toString();
    }
}
