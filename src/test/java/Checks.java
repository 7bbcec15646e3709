/** Counts and prints every answer that is not the one that is due. */
final class Checks {
    static final int NONE = -1;
    static final int UNKNOWN = -1000000001;
    static final int OUTSIDE = -1000000002;
    static final int NOT = -1000000003;
    static final int FULL = -1000000004;

    private int wrong;
    private int made;

    void due(String call, long want, long got) {
        made++;
        if (want != got) {
            wrong++;
            System.out.println(call + " answered " + got + ", due is " + want);
        }
    }

    void holds(String what, boolean so) {
        due(what, 1, so ? 1 : 0);
    }

    /** Ends the program, with exit code 1 if an answer was wrong. */
    void end() {
        System.out.println(made + " checks, " + wrong + " wrong");
        if (wrong > 0 || made == 0) {
            System.exit(1);
        }
    }

    static void feed(SevenBlows x, String text) {
        for (int i = 0; i < text.length(); i++) {
            x.feed(text.charAt(i));
        }
    }

    /** A new object with the land that the text tells. */
    SevenBlows land(String text) {
        SevenBlows x = new SevenBlows();
        feed(x, text);
        holds("land of " + text, x.land() >= 0);
        return x;
    }

    /** All that can be asked without a change, in one text: what is refused leaves it as it is. */
    static String all(SevenBlows x) {
        StringBuilder s = new StringBuilder();
        for (int what = 0; what <= 8; what++) {
            s.append(x.told(what)).append(' ');
        }
        s.append(x.fault()).append(' ').append(x.judge());
        for (int f = 0; f < x.told(1); f++) {
            s.append("; f");
            for (int what = 0; what <= 6; what++) {
                s.append(' ').append(x.fighter(f, what));
            }
            for (int p = 0; p < x.told(0); p++) {
                s.append(' ').append(x.thinks(p, f));
            }
        }
        int seed = x.seed(0);
        x.seed(seed);
        return s.append("; seed ").append(seed).toString();
    }
}
