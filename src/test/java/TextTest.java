/** Promises 1 to 5: a new object, the text, its land and its faults, what is told. */
public final class TextTest {
    private static final Checks c = new Checks();
    private static final String BEFORE = "p2;f0 10 20;f3 30 40;c0 1;t0 1 5 3;r0 2 0;e1 1 7;";

    public static void main(String[] args) {
        newObject();
        feeds();
        emptyTexts();
        blanksAndFigures();
        faultsOfPlace();
        faultsOfNumbers();
        faultsOfCount();
        faultsOfTwo();
        faultChangesNothing();
        newLandStartsAnew();
        threeLands();
        oldLettersAreGone();
        fullText();
        fullLand();
        c.end();
    }

    private static void newObject() {
        SevenBlows x = new SevenBlows();
        for (int what = 0; what <= 8; what++) {
            c.due("new told " + what, 0, x.told(what));
        }
        c.due("told(-1)", Checks.OUTSIDE, x.told(-1));
        c.due("told(9)", Checks.OUTSIDE, x.told(9));
        c.due("new fault", Checks.NONE, x.fault());
        c.due("new fighter", Checks.UNKNOWN, x.fighter(0, 0));
        c.due("new thinks", Checks.UNKNOWN, x.thinks(0, 0));
        c.due("new chats", Checks.UNKNOWN, x.chats(0));
        c.due("new task", Checks.UNKNOWN, x.task(0, 0));
        c.due("new trick", Checks.UNKNOWN, x.trick(0, 0));
        c.due("new rumour", Checks.UNKNOWN, x.rumour(0));
        c.due("new attempt", Checks.UNKNOWN, x.attempt(0, 0, 0));
        c.due("new drift", Checks.NOT, x.drift(1));
        c.due("new plan", Checks.UNKNOWN, x.plan(0, -1, 0));
        c.due("new stops", Checks.UNKNOWN, x.stops(0));
        c.due("new write rounds", 0, x.write(Checks.NONE));
        c.due("new write", Checks.UNKNOWN, x.write(0));
        c.due("new tells above", 0, x.tells(0, 0, 0));
        c.due("new tells below", 1, x.tells(0, 0, 1));
        c.due("new judge", Checks.NONE, x.judge());
        c.due("new tear", 0, x.tear());
        c.due("new image", Checks.NOT, x.goBack(0));
        c.due("new seed", 0, x.seed(0));
    }

    private static void feeds() {
        SevenBlows x = new SevenBlows();
        c.due("feed below", Checks.OUTSIDE, x.feed(-1));
        c.due("feed above", Checks.OUTSIDE, x.feed(256));
        c.due("feed 0", 1, x.feed(0));
        c.due("feed 255", 2, x.feed(255));
        for (int i = 3; i <= 250; i++) {
            c.due("feed", i, x.feed(' '));
        }
        c.due("feed full", Checks.FULL, x.feed(' '));
        c.due("feed full, outside", Checks.OUTSIDE, x.feed(256));
        c.due("letters", 250, x.told(5));
        c.due("letter 0 is no word", -11, x.land());
        c.due("at", 0, x.fault());
        c.due("letters left", 0, x.told(5));
        c.due("feed again", 1, x.feed('p'));
    }

    private static void emptyTexts() {
        SevenBlows x = c.land(BEFORE);
        c.due("empty land", 0, x.land());
        c.due("no fault", Checks.NONE, x.fault());
        for (int what = 0; what <= 8; what++) {
            c.due("nobody told " + what, 0, x.told(what));
        }
        x = c.land(BEFORE);
        Checks.feed(x, "   ");
        c.due("blank land", 0, x.land());
        c.due("blank fighters", 0, x.told(1));
        c.due("blank fault", Checks.NONE, x.fault());
    }

    private static void blanksAndFigures() {
        SevenBlows x = c.land("  p 003 ;f 0 1 2; f002 099 9 ;f0 007 010;  ");
        c.due("people", 3, x.told(0));
        c.due("fighters", 3, x.told(1));
        c.due("kind", 2, x.fighter(1, 0));
        c.due("strength", 99, x.fighter(1, 1));
        c.due("belt", 9, x.fighter(1, 2));
        c.due("figures 007", 7, x.fighter(2, 1));
        c.due("figures 010", 10, x.fighter(2, 2));
        c.due("rested land", 0, x.told(5));
    }

    private static void faultsOfPlace() {
        String[] marked = {
            "^x", "^;", "^5", "^1234", "  ^f0 0 0;", "^f0 0 0;p1;", "^P1;", "^\t", "p^", "p1^", "p1  ^",
            "p^;", "p1 ^2;", "p1 ^2222;", "p1;^;", "p1^p1;", "p1;f0 1 2^p", "p1;f0 1 2 ^", "p1;f0 1^;", "p1;f0 1 2 ^3;",
            "p1;f0 1^f", "p1;^P", "p1^\t;", "p1;^" + (char) 233, "p1;^" + (char) 0, "p1;^7", "p^-1;", "p2;c0 ^", "p2;c0^;",
            "p2;c0 1 ^0;", "p1;t0 0 0^;", "p1;t0 0 0 0 ^0;", "p1;t0 0 0 0;r0 1^;", "p1;t0 0 0 0;r0 1 1^",
            "p1;f0 0 0;e0 0^;", "p1;f0 0 0;e0 0 0 ^1;", "p1;f0 0 0;^E0 0 0;", "p1;f^f0 0 0;", "p1;f0^,0 0;", "p1;f0 1 2^x7",
            "p1;f0 0 0;f0 0 0;f0 0 0;f0 0 0;f0 0 0^f0 0 0;", "p2;c0^c0;", "p^p9;", "p1;f0 0 0;e0 0 0^", "p1;^q"
        };
        for (int i = 0; i < marked.length; i++) {
            c.faulty(1, marked[i]);
        }
    }

    private static void faultsOfNumbers() {
        String[] marked = {
            "p^0;", "p^7;", "p^1234;", "p^0001;", "p  ^9 ", "p^7x", "p^12345678901234567890;", "p^00000000004;",
            "p1;f^5 0 0;", "p1;f0 ^100 0;", "p1;f0 0 ^100;", "p1;f0 0 ^1270;", "p1;f0 ^999", "p1;f ^0000 0 0;",
            "p2;c^2 0;", "p2;c0 ^2;", "p2;c^2 2;", "p2;c1 ^0001;", "p2;t^2 0 0 0;", "p2;t0 ^100 0 0;", "p2;t0 0 ^100 0;",
            "p2;t0 0 0 ^21;", "p2;r^0 1 0;", "p2;t0 0 0 0;r^1 1 0;t0 0 0 0;", "p2;t0 0 0 0;r0 ^0 0;", "p2;t0 0 0 0;r0 ^100 0;",
            "p2;t0 0 0 0;r0 1 ^100;", "p2;e0 ^0 0;", "p2;f0 0 0;e^2 0 0;", "p2;f0 0 0;e0 ^1 0;f0 0 0;", "p2;f0 0 0;e0 0 ^100;",
            "p2;f0 0 0;e0 0 0;e0 ^1 0;", "p6;c^6 0;"
        };
        for (int i = 0; i < marked.length; i++) {
            c.faulty(2, marked[i]);
        }
    }

    private static void faultsOfCount() {
        c.faulty(3, "p1;^p1;");
        c.faulty(3, "p1; ^p");
        c.faulty(3, "p2;f0 0 0;^p9;");
        c.faulty(3, "p1;" + "f0 0 0;".repeat(5) + "^f0 0 0;");
        c.faulty(3, "p1;" + "f0 0 0;".repeat(5) + "^f9");
        c.faulty(3, "p6;" + TEN_CHATS + "^c1 2;");
        c.faulty(3, "p6;" + TEN_CHATS + "^c0 0;");
        c.faulty(3, "p1;" + "t0 0 0 0;".repeat(6) + "^t0 0 0 0;");
        c.faulty(3, "p1;t0 0 0 0;" + "r0 1 0;".repeat(4) + "^r0 1 0;");
    }

    private static final String TEN_CHATS = "c0 1;c0 2;c0 3;c0 4;c0 5;c1 2;c1 3;c1 4;c1 5;c2 3;";

    private static void faultsOfTwo() {
        c.faulty(4, "p2;c0 ^0;");
        c.faulty(4, "p2;c1 ^1;");
        c.faulty(4, "p2;c0 1;c0 ^1;");
        c.faulty(4, "p2;c0 1;c1 ^0;");
        c.faulty(4, "p2;c0 1;c 1 ^000;");
        c.faulty(4, "p3;c0 1;c1 2;c2 0;c2 ^1");
        c.faulty(4, "p2;f0 0 0;e0 0 0;e0 ^0 5;");
        c.faulty(4, "p2;f0 0 0;f0 0 0;e1 1 5;e1 0 5;e1 ^1 100;");
        c.faulty(4, "p6;" + "f0 0 0;".repeat(5) + "e5 4 1;e4 4 1;e5 3 1;e5 ^4 1;");
    }

    private static void faultChangesNothing() {
        SevenBlows x = c.land(BEFORE);
        x.seed(77);
        x.attempt(1, 0, 1);
        x.drift(3);
        x.note(1, 1, 5);
        x.keep(1);
        Checks.feed(x, "x");
        c.due("a fault at 0", -11, x.land());
        String before = Checks.all(x);
        Checks.feed(x, "p6;f1 1 1;c4 5;t5 1 1 1;e5 0 9;c0 0;");
        c.due("faulty", -14, x.land());
        c.due("its place", 34, x.fault());
        Checks.feed(x, "x");
        c.due("another fault", -11, x.land());
        c.due("the place of the latest", 0, x.fault());
        c.holds("all else is as it was", before.equals(Checks.all(x)));
        c.due("chats stay", 2, x.chats(0));
        c.due("guard stays", 0, x.task(0, 0));
        c.due("the image stays", 1, x.goBack(1));
        Checks.feed(x, "p1;");
        c.due("next land", 1, x.land());
        c.due("no fault any more", Checks.NONE, x.fault());
    }

    private static void newLandStartsAnew() {
        SevenBlows x = c.land(BEFORE);
        x.seed(5);
        x.attempt(0, 0, 1);
        x.belt(1, 9);
        x.note(0, 0, 0);
        x.keep(0);
        x.keep(1);
        x.drift(2);
        int seed = x.seed(1234);
        c.holds("days drew", seed != 5);
        Checks.feed(x, "p3;f0 10 20;f3 30 40;t0 1 5 3;t1 1 1 1;e0 0 4;e2 1 6;");
        c.due("second land", 3, x.land());
        c.due("days", 0, x.told(6));
        c.due("entries", 0, x.told(8));
        c.due("chats", 0, x.told(2));
        c.due("chats of 0", 0, x.chats(0));
        c.due("tasks", 2, x.told(3));
        c.due("tricks", 0, x.told(4));
        c.due("thoughts", 10, x.told(7));
        c.due("thought 0 0", 4, x.thinks(0, 0));
        c.due("thought 1 1", 0, x.thinks(1, 1));
        c.due("belt", 40, x.fighter(1, 2));
        c.due("done", 0, x.fighter(0, 4));
        c.due("used", 0, x.fighter(0, 5));
        c.due("image 0 is gone", Checks.NOT, x.goBack(0));
        c.due("image 1 is gone", Checks.NOT, x.goBack(1));
        c.due("the seed stays", 1234, x.seed(0));
    }

    /** What an earlier land told, or one with a fault, is in no later one. */
    private static void threeLands() {
        String full = "p6;" + "f1 2 3;".repeat(5) + TEN_CHATS + "t5 1 1 1;".repeat(6) + "r5 1 0;".repeat(4) + "e0 0 9;e5 1 9;e4 0 9;e5 4 9;";
        SevenBlows x = c.land(full);
        Checks.feed(x, full + "p");
        c.due("with a fault", -13, x.land());
        Checks.feed(x, "p2;f0 5 0;c0 1;t0 1 1 1;e0 0 4;");
        c.due("a small one", 2, x.land());
        int[] due = {2, 1, 1, 1, 0, 0, 0, 4, 0};
        for (int what = 0; what <= 8; what++) {
            c.due("small told " + what, due[what], x.told(what));
        }
        c.due("its chats", 2, x.chats(0));
        c.due("its tricks", 0, x.task(0, 4));
        Checks.feed(x, "p6;f0 1 1;f0 1 1;c2 3;");
        c.due("a third one", 6, x.land());
        c.due("its thoughts", 0, x.told(7));
        c.due("chats of 0", 0, x.chats(0));
        c.due("chats of 2", 8, x.chats(2));
    }

    private static void oldLettersAreGone() {
        SevenBlows x = c.land("p2;f0 12 34;");
        Checks.feed(x, "p2");
        c.due("no end of a clause", -11, x.land());
        c.due("at the end", 2, x.fault());
        Checks.feed(x, "p2;f0 1");
        c.due("no more figures", -11, x.land());
        c.due("at its end", 7, x.fault());
        Checks.feed(x, "p2;f");
        c.due("no numbers", -11, x.land());
        c.due("behind f", 4, x.fault());
        Checks.feed(x, "p2;");
        c.due("short", 2, x.land());
        c.due("nobody fights", 0, x.told(1));
    }

    private static void fullText() {
        String blanks = " ".repeat(239);
        String[] ends = {"p2;f0 12 34;", "p2;f0 12 345", "p2;f0 1 2345", "p2;f0 12 34 ", "p2;f0 1 2 ;f", "p2;f0 1 2; f"};
        int[] due = {2, -12, -12, -11, -11, -11};
        int[] places = {Checks.NONE, 247, 246, 250, 250, 250};
        for (int i = 0; i < ends.length; i++) {
            SevenBlows x = new SevenBlows();
            Checks.feed(x, blanks.substring(1) + ends[i]);
            c.due("letters", 250, x.told(5));
            c.due("full text " + ends[i], due[i], x.land());
            c.due("place in " + ends[i], places[i], x.fault());
        }
        SevenBlows x = c.land("p2;f0 12 34;" + blanks.substring(1));
        c.due("full of blanks", 1, x.told(1));
        Checks.feed(x, " ".repeat(250));
        c.due("blanks alone", 0, x.land());
    }

    private static void fullLand() {
        String text = "p6;" + "f0 0 0;".repeat(5) + TEN_CHATS + "t0 0 0 0;".repeat(6) + "r0 1 0;".repeat(4)
            + "e0 0 1;e5 4 2;e3 2 3;";
        SevenBlows x = c.land(text);
        int[] due = {6, 5, 10, 6, 4, 0, 0, 6, 0};
        for (int what = 0; what <= 8; what++) {
            c.due("full told " + what, due[what], x.told(what));
        }
        StringBuilder every = new StringBuilder("p6;");
        for (int f = 0; f < 5; f++) {
            every.append("f0 0 0;");
        }
        for (int i = 0; i < 29; i++) {
            every.append('e').append(i / 5).append(' ').append(i % 5).append(' ').append(i % 10).append(';');
        }
        x = c.land(every.toString());
        for (int i = 0; i < 29; i++) {
            c.due("thought " + i, i % 10, x.thinks(i / 5, i % 5));
        }
        c.due("untold", 0, x.thinks(5, 4));
        c.due("all thoughts", 45 + 45 + 36, x.told(7));
    }
}
