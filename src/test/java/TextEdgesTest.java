/** The edges of promises 1 to 5 and of THE LAND's text: what is let in just so, what just not, nothing, all. */
public final class TextEdgesTest {
    private static final Checks c = new Checks();
    private static final String TEN_CHATS = "c0 1;c0 2;c0 3;c0 4;c0 5;c1 2;c1 3;c1 4;c1 5;c2 3;";
    private static final String FIVE_FIGHTERS = "f0 1 2;f1 2 3;f2 3 4;f3 4 5;f4 5 6;";
    private static final String SIX_TASKS = "t0 1 2 3;".repeat(5) + "t0 4 5 6;";
    private static final String FOUR_TRICKS = "r0 1 2;".repeat(3) + "r5 3 4;";
    private static final String SMALL = "p2;f0 10 50;f3 20 60;c0 1;t0 5 7 3;r0 1 0;e0 0 5;e1 1 9;";

    public static void main(String[] args) {
        newObjectHasNobody();
        lettersFrom0To255();
        text250();
        blanksFillTheText();
        emptyText();
        peopleBounds();
        fighterBounds();
        chatBounds();
        taskBounds();
        trickBounds();
        thoughtBounds();
        figuresOneToThree();
        blanksAnywhere();
        blanksNotWithinNumbers();
        onlySign32IsBlank();
        clausesUpToTheMost();
        oneClauseTooMany();
        thirtyThoughts();
        toldAheadOnly();
        endOfTheText();
        endOfAFullText();
        endAheadOfOlderLetters();
        firstFaultOfTwo();
        leastFaultOfALetter();
        twiceEitherWay();
        faultIsOfTheLatest();
        faultLeavesAll();
        landMakesAllNew();
        nothingOfEarlierLands();
        seedStays();
        toldBounds();
        c.end();
    }

    private static void newObjectHasNobody() {
        SevenBlows x = new SevenBlows();
        for (int what = 0; what <= 8; what++) {
            c.due("P1: new told " + what, 0, x.told(what));
        }
        c.due("P1: no FIGHTER 0", Checks.UNKNOWN, x.fighter(0, 0));
        c.due("P1: no PERSON 0", Checks.UNKNOWN, x.chats(0));
        c.due("P1: no TASK 0", Checks.UNKNOWN, x.task(0, 0));
        c.due("P1: no TRICK 0", Checks.UNKNOWN, x.trick(0, 0));
        c.due("P1: no IMAGE 0", Checks.NOT, x.goBack(0));
        c.due("P1: no IMAGE 1", Checks.NOT, x.goBack(1));
        c.due("P1: no FAULT yet", Checks.NONE, x.fault());
        c.due("P1: empty BOOK", Checks.NONE, x.judge());
        c.due("P1: SEED 0", 0, x.seed(0));
    }

    private static void lettersFrom0To255() {
        for (int letter = 0; letter <= 255; letter++) {
            SevenBlows x = new SevenBlows();
            c.due("P2: feed " + letter, 1, x.feed(letter));
            c.due("P2: a letter more after " + letter, 2, x.feed(letter));
        }
        int[] outside = {-1, 256, -256, 65536 + 'p', Integer.MIN_VALUE, Integer.MAX_VALUE};
        for (int letter : outside) {
            SevenBlows x = new SevenBlows();
            c.due("P2: feed " + letter, Checks.OUTSIDE, x.feed(letter));
            c.due("P2: no letter by " + letter, 0, x.told(5));
            c.due("P2: nor a FAULT", 0, x.land());
        }
    }

    private static void text250() {
        SevenBlows x = new SevenBlows();
        for (int i = 1; i <= 249; i++) {
            c.due("P2: letter " + i, i, x.feed(i == 248 ? 'p' : i == 249 ? '3' : ' '));
        }
        c.due("P2: the 250th", 250, x.feed(';'));
        c.due("P2: the 251st", Checks.FULL, x.feed('x'));
        c.due("P2: OUTSIDE ahead of FULL", Checks.OUTSIDE, x.feed(256));
        c.due("P2: OUTSIDE ahead of FULL, below", Checks.OUTSIDE, x.feed(-1));
        c.due("P5: letters", 250, x.told(5));
        c.due("P3: all 250 are read", 3, x.land());
        c.due("P3: THE TEXT is empty then", 0, x.told(5));
        c.due("P2: and takes letters", 1, x.feed('p'));
    }

    private static void blanksFillTheText() {
        SevenBlows x = new SevenBlows();
        Checks.feed(x, " ".repeat(250));
        c.due("P3: 250 blanks alone", 0, x.land());
        c.due("P4: have no FAULT", Checks.NONE, x.fault());
        Checks.feed(x, "p1;" + " ".repeat(246) + "x");
        c.due("P3: the 250th has a FAULT", -11, x.land());
        c.due("P4: at its place", 249, x.fault());
    }

    private static void emptyText() {
        for (String text : new String[] {"", " ", "   "}) {
            SevenBlows x = c.land(SMALL);
            x.note(0, 0, 5);
            x.drift(2);
            x.keep(0);
            x.keep(1);
            x.feed('x');
            x.land();
            x.seed(77);
            Checks.feed(x, text);
            c.due("P3: nobody by '" + text + "'", 0, x.land());
            c.due("P4: no FAULT in '" + text + "'", Checks.NONE, x.fault());
            for (int what = 0; what <= 8; what++) {
                c.due("P5: told " + what + " by '" + text + "'", 0, x.told(what));
            }
            c.due("P3: IMAGE 0 is gone", Checks.NOT, x.goBack(0));
            c.due("P3: IMAGE 1 is gone", Checks.NOT, x.goBack(1));
            c.due("P3: THE SEED stays", 77, x.seed(0));
            c.due("P6: no FIGHTER any more", Checks.UNKNOWN, x.fighter(0, 0));
        }
    }

    /** Every number from least to most is let in and told so; its neighbours and those of four figures are not. */
    private static void bounds(String ahead, int least, int most, String behind, Checks.Call told) {
        for (int n = least; n <= most; n++) {
            SevenBlows x = c.land(ahead + n + behind);
            c.due(ahead + "<" + n + ">" + behind + " told", n, told.of(x));
        }
        if (least > 0) {
            c.faulty(2, ahead + "^" + (least - 1) + behind);
        }
        c.faulty(2, ahead + "^" + (most + 1) + behind);
        c.faulty(2, ahead + "^999" + behind);
        c.faulty(2, ahead + "^000" + least + behind);
        c.faulty(2, ahead + "^1000" + behind);
        c.faulty(1, ahead + "^-1" + behind);
        c.faulty(1, ahead + "^x" + behind);
    }

    private static void peopleBounds() {
        bounds("p", 1, 6, ";", x -> x.told(0));
        for (int n = 1; n <= 6; n++) {
            SevenBlows x = c.land("p" + n + ";");
            c.due("PERSON " + (n - 1) + " of " + n, 0, x.chats(n - 1));
            c.due("PERSON " + n + " of " + n, Checks.UNKNOWN, x.chats(n));
        }
    }

    private static void fighterBounds() {
        bounds("p1;f", 0, 4, " 7 8;", x -> x.fighter(0, 0));
        bounds("p1;f0 ", 0, 99, " 8;", x -> x.fighter(0, 1));
        bounds("p1;f0 7 ", 0, 99, ";", x -> x.fighter(0, 2));
    }

    private static void chatBounds() {
        for (int n = 1; n <= 6; n++) {
            String people = "p" + n + ";c";
            for (int a = 0; a < n; a++) {
                for (int b = 0; b < n; b++) {
                    if (a == b) {
                        c.faulty(4, people + a + " ^" + b + ";");
                        continue;
                    }
                    SevenBlows x = c.land(people + a + " " + b + ";");
                    c.due(a + " CHATS with " + b, 1 << b, x.chats(a));
                    c.due(b + " CHATS with " + a, 1 << a, x.chats(b));
                }
                c.faulty(2, people + a + " ^" + n + ";");
                c.faulty(2, people + "^" + n + " " + a + ";");
            }
            c.faulty(2, people + "^" + n + " " + n + ";");
            c.faulty(2, people + "^999 0;");
            c.faulty(2, people + "^0000 0;");
            c.faulty(2, people + "0 ^0000;");
            c.faulty(1, people + "^x");
            c.faulty(1, people + "0 ^x");
        }
    }

    private static void taskBounds() {
        bounds("p3;t", 0, 2, " 5 6 7;", x -> x.task(0, 0));
        bounds("p1;t0 ", 0, 99, " 6 7;", x -> x.task(0, 1));
        bounds("p1;t0 5 ", 0, 99, " 7;", x -> x.task(0, 2));
        bounds("p1;t0 5 6 ", 0, 20, ";", x -> x.task(0, 3));
    }

    private static void trickBounds() {
        bounds("p1;t0 1 1 1;t0 1 1 1;r", 0, 1, " 5 6;", x -> x.trick(0, 0));
        bounds("p1;t0 1 1 1;r0 ", 1, 99, " 6;", x -> x.trick(0, 1));
        bounds("p1;t0 1 1 1;r0 5 ", 0, 99, ";", x -> x.trick(0, 2));
    }

    private static void thoughtBounds() {
        bounds("p3;f0 1 1;e", 0, 2, " 0 5;", x -> whoThinks(x, 0, 5));
        bounds("p1;f0 1 1;f0 1 1;f0 1 1;e0 ", 0, 2, " 5;", x -> x.thinks(0, 0) == 5 ? 0 : x.thinks(0, 1) == 5 ? 1 : 2);
        bounds("p1;f0 1 1;e0 0 ", 0, 99, ";", x -> x.thinks(0, 0));
    }

    private static int whoThinks(SevenBlows x, int f, int much) {
        for (int p = 0; p < x.told(0); p++) {
            if (x.thinks(p, f) == much) {
                return p;
            }
        }
        return Checks.NONE;
    }

    private static void figuresOneToThree() {
        for (String figures : new String[] {"4", "04", "004"}) {
            c.due("'" + figures + "' is 4", 4, c.land("p" + figures + ";").told(0));
        }
        c.faulty(2, "p^0004;");
        c.faulty(2, "p^00000000000000000004;");
        c.faulty(2, "p^4294967300;");
        for (String figures : new String[] {"0", "00", "000"}) {
            c.due("'" + figures + "' is 0", 0, c.land("p1;f" + figures + " 1 1;").fighter(0, 0));
        }
        c.faulty(2, "p1;f^0000 1 1;");
    }

    private static void blanksAnywhere() {
        String text = "p2;f0 12 34;c0 1;t1 20 30 4;r0 55 66;e1 0 77;";
        SevenBlows plain = c.land(text);
        String due = Checks.all(plain) + Checks.ground(plain);
        for (int i = 0; i <= text.length(); i++) {
            boolean within = i > 0 && i < text.length() && isFigure(text.charAt(i - 1)) && isFigure(text.charAt(i));
            if (!within) {
                SevenBlows x = c.land(text.substring(0, i) + " " + text.substring(i));
                c.same("a blank at " + i, due, Checks.all(x) + Checks.ground(x));
            }
        }
        SevenBlows x = c.land("   p  2  ;  f 0   12  34 ;c  0  1 ; t1  20 30 4 ; r 0 55 66 ;  e  1  0  77  ;   ");
        c.same("many blanks", due, Checks.all(x) + Checks.ground(x));
    }

    private static boolean isFigure(char letter) {
        return letter >= '0' && letter <= '9';
    }

    private static void blanksNotWithinNumbers() {
        c.faulty(1, "p1 ^6;");
        c.faulty(1, "p1;f0 1 2 ^3;");
        c.faulty(1, "p1;f0 12 3 ^4;");
        c.faulty(1, "p2;c01^;");
        c.faulty(1, "p1;f0 12^;");
        c.faulty(2, "p1;f^012 3;");
        c.faulty(2, "p2;t0 1 ^1000 1;");
    }

    private static void onlySign32IsBlank() {
        for (int sign : new int[] {0, 9, 10, 13, 31, 33, 95, 160, 255}) {
            c.faulty(1, "^" + (char) sign + "p1;");
            c.faulty(1, "p^" + (char) sign + "1;");
            c.faulty(1, "p1^" + (char) sign + ";");
            c.faulty(1, "p1;^" + (char) sign);
        }
        for (int sign = 0; sign <= 255; sign++) {
            if ("pfctre ".indexOf(sign) < 0) {
                c.faulty(1, "p1;^" + (char) sign);
            }
            if (sign != 'p' && sign != ' ') {
                c.faulty(1, "^" + (char) sign);
            }
        }
    }

    private static void clausesUpToTheMost() {
        SevenBlows x = c.land("p6;" + FIVE_FIGHTERS + TEN_CHATS + SIX_TASKS + FOUR_TRICKS);
        int[] due = {6, 5, 10, 6, 4};
        for (int what = 0; what < due.length; what++) {
            c.due("P5: the most of " + what, due[what], x.told(what));
        }
        c.due("the fifth FIGHTER", 4, x.fighter(4, 0));
        c.due("its STRENGTH", 5, x.fighter(4, 1));
        c.due("its BELT", 6, x.fighter(4, 2));
        c.due("no sixth", Checks.UNKNOWN, x.fighter(5, 0));
        c.due("the tenth CHAT", 1 << 0 | 1 << 1 | 1 << 3, x.chats(2));
        c.due("the sixth TASK", 4, x.task(5, 1));
        c.due("its FAME", 6, x.task(5, 3));
        c.due("no seventh", Checks.UNKNOWN, x.task(6, 0));
        c.due("the fourth TRICK", 5, x.trick(3, 0));
        c.due("its L", 3, x.trick(3, 1));
        c.due("no fifth", Checks.UNKNOWN, x.trick(4, 0));
        c.due("TRICKS of the first TASK", 7, x.task(0, 4));
        c.due("TRICKS of the sixth", 8, x.task(5, 4));
    }

    private static void oneClauseTooMany() {
        c.faulty(3, "p6;^p6;");
        c.faulty(3, "p6;f0 1 2;^p6;");
        c.faulty(3, "p6;  ^p");
        c.faulty(3, "p6;" + FIVE_FIGHTERS + "^f0 1 2;");
        c.faulty(3, "p6;" + TEN_CHATS + "^c2 4;");
        c.faulty(3, "p6;" + SIX_TASKS + "^t0 1 2 3;");
        c.faulty(3, "p6;" + SIX_TASKS + FOUR_TRICKS + "^r0 1 2;");
        c.faulty(3, "p5;" + "c0 1;c0 2;c0 3;c0 4;c1 2;c1 3;c1 4;c2 3;c2 4;c3 4;" + "^c0 1;");
        c.faulty(3, "p6;" + FIVE_FIGHTERS + "   ^f");
        c.faulty(3, "p6;" + SIX_TASKS + "^t");
    }

    private static void thirtyThoughts() {
        StringBuilder s = new StringBuilder("p6;" + "f0 0 0;".repeat(5));
        for (int p = 5; p >= 0; p--) {
            for (int f = 4; f >= 0; f--) {
                s.append('e').append(p).append(' ').append(f).append(' ').append((p * 5 + f) % 10).append(';');
            }
        }
        SevenBlows x = c.land(s.toString());
        for (int i = 0; i < 30; i++) {
            c.due("thirty told, " + i, i % 10, x.thinks(i / 5, i % 5));
        }
        c.due("P5: all together", 3 * 45, x.told(7));
        x = c.land("p6;" + "f0 9 9;".repeat(5) + "e3 2 1;");
        for (int i = 0; i < 30; i++) {
            c.due("untold is 0, " + i, i == 17 ? 1 : 0, x.thinks(i / 5, i % 5));
        }
    }

    private static void toldAheadOnly() {
        c.faulty(1, "^f0 1 1;p1;");
        c.faulty(1, "^c0 1;");
        c.faulty(1, "^t0 1 1 1;");
        c.faulty(1, "^r0 1 1;");
        c.faulty(1, "^e0 0 1;");
        c.faulty(1, "^;p1;");
        c.faulty(1, "^1p1;");
        c.faulty(2, "p1;r^0 1 1;t0 1 1 1;");
        c.faulty(2, "p1;t0 1 1 1;r^1 1 1;t0 1 1 1;");
        c.faulty(2, "p1;e0 ^0 1;f0 1 1;");
        c.faulty(2, "p1;f0 1 1;e0 ^1 1;f0 1 1;");
        c.due("told just ahead", 1, c.land("p1;t0 1 1 1;t0 1 1 1;r1 1 1;").trick(0, 0));
        c.due("told just ahead, too", 1, c.land("p1;f0 1 1;f0 1 1;e0 1 1;").thinks(0, 1));
        c.faulty(2, "p1;c^1 0;");
        c.faulty(2, "p1;c0 ^1;");
        c.faulty(4, "p1;c0 ^0;");
    }

    private static void endOfTheText() {
        String text = "p2;f0 12 34;t1 20 30 4;";
        for (int end = 1; end < text.length(); end++) {
            char last = text.charAt(end - 1);
            if (last != ';') {
                c.faulty(1, text.substring(0, end) + "^");
                c.faulty(1, text.substring(0, end) + "  ^");
            } else {
                c.due("a text may end behind ';' " + end, 2, c.land(text.substring(0, end)).told(0));
            }
        }
        c.faulty(2, "p1;f^9");
        c.faulty(2, "p1;f0 1 ^2345");
    }

    private static void endOfAFullText() {
        c.faulty(1, " ".repeat(249) + "p^");
        c.faulty(1, " ".repeat(248) + "p6^");
        c.faulty(2, " ".repeat(248) + "p^7");
        c.faulty(1, "p1;" + " ".repeat(240) + "f0 1 99^");
        c.faulty(1, "p1;" + " ".repeat(246) + "f^");
        c.faulty(2, "p1;" + " ".repeat(241) + "f0 ^1000");
        c.due("the last of 250 ends it", 99, c.land("p1;" + " ".repeat(239) + "f0 1 99;").fighter(0, 2));
    }

    /** What was told in an earlier text does not go on behind the end of a later one. */
    private static void endAheadOfOlderLetters() {
        String[] marked = {"p1^", "p1;f^", "p1;f0 2^", "p1;f0 23 4^", "p1;f0 23 45^", "^x"};
        for (String text : marked) {
            SevenBlows x = c.land("p1;f0 23 45;f0 67 89;");
            Checks.feed(x, text.replace("^", ""));
            c.due("P3: behind an older text " + text, -11, x.land());
            c.due("P4: behind an older text " + text, text.indexOf('^'), x.fault());
        }
        SevenBlows x = c.land("p1;f0 23 45;f0 67 89;");
        Checks.feed(x, "p1;");
        c.due("P3: a shorter one", 1, x.land());
        c.due("P5: nobody of the older one", 0, x.told(1));
    }

    private static void firstFaultOfTwo() {
        c.faulty(2, "p^7 x");
        c.faulty(2, "p^7;p1;");
        c.faulty(3, "p1;^p9;");
        c.faulty(2, "p2;c^2 2;");
        c.faulty(4, "p2;f0 1 1;e0 0 1;e0 ^0 100;");
        c.faulty(4, "p2;c1 ^1 x");
        c.faulty(1, "p1;^x;p1;f9");
        c.faulty(2, "p1;f^5 100 1000;f");
        c.faulty(2, "p1;f4 ^100 1000;f");
        c.faulty(2, "p1;f4 99 ^1000;f");
    }

    private static void leastFaultOfALetter() {
        c.faulty(1, "p1^p1;");
        c.faulty(1, "p^p1;");
        c.faulty(1, "p6;" + FIVE_FIGHTERS.substring(0, FIVE_FIGHTERS.length() - 1) + "^f0 1 2;");
        c.faulty(2, "p2;c1 ^0001;");
        c.faulty(2, "p2;c0 1;c0 ^0001;");
        c.faulty(2, "p2;c0 1;c1 ^0000;");
        c.faulty(2, "p2;f0 1 1;e0 0 1;e0 ^0000 1;");
    }

    private static void twiceEitherWay() {
        c.faulty(4, "p3;c0 1;c0 ^1;");
        c.faulty(4, "p3;c0 1;c1 ^0;");
        c.faulty(4, "p3;c1 0;c0 ^1;");
        c.faulty(4, "p3;c0 1;c1 2;c2 ^1;");
        c.faulty(4, "p6;c5 ^5;");
        c.faulty(4, "p6;c5 ^005;");
        c.faulty(4, "p2;f0 1 1;e0 0 0;e0 ^0 0;");
        c.faulty(4, "p2;f0 1 1;f0 1 1;e1 1 7;e0 1 7;e1 0 7;e1 ^1 7;");
        SevenBlows x = c.land("p3;c0 1;c1 2;c2 0;");
        c.due("each two once are three", 3, x.told(2));
        x = c.land("p2;f0 1 1;f0 1 1;e0 1 3;e1 0 4;");
        c.due("0 of 1 and 1 of 0 are not both", 3, x.thinks(0, 1));
        c.due("nor 1 of 0", 4, x.thinks(1, 0));
    }

    private static void faultIsOfTheLatest() {
        SevenBlows x = new SevenBlows();
        c.due("P4: none yet", Checks.NONE, x.fault());
        Checks.feed(x, "p9");
        c.due("P4: not before land()", Checks.NONE, x.fault());
        c.due("P3: -10 less 2", -12, x.land());
        c.due("P4: place 1", 1, x.fault());
        Checks.feed(x, "q");
        c.due("P4: still that of the latest land()", 1, x.fault());
        c.due("P3: -10 less 1", -11, x.land());
        c.due("P4: place 0", 0, x.fault());
        Checks.feed(x, "p1;p");
        c.due("P3: -10 less 3", -13, x.land());
        c.due("P4: place 3", 3, x.fault());
        Checks.feed(x, "p1;c0 0");
        c.due("P3: -10 less 4", -14, x.land());
        c.due("P4: place 6", 6, x.fault());
        c.due("P3: the faulty text is gone, too", 0, x.land());
        c.due("P4: no FAULT any more", Checks.NONE, x.fault());
    }

    private static void faultLeavesAll() {
        String[] faulty = {"x", "p3;f1 1 1;t2 1 1 1;c1 2;e2 0 9;p", "p6;" + "f1 9 9;".repeat(5) + "e5 4 9;f", "p1;t0 9 9 9;r0 9 9;c0 0;", "p7"};
        for (String text : faulty) {
            SevenBlows x = c.land(SMALL);
            x.seed(7);
            x.drift(2);
            x.attempt(0, 0, 1);
            x.note(1, 1, 3);
            x.belt(1, 61);
            x.keep(1);
            x.belt(1, 8);
            String before = Checks.state(x) + Checks.ground(x);
            Checks.feed(x, text);
            c.holds("P3: a FAULT in " + text, x.land() < -10);
            c.same("P3: all else after " + text, before, Checks.state(x) + Checks.ground(x));
            c.due("P3: IMAGES stay", 1, x.goBack(1));
            c.due("P3: as they were", 61, x.fighter(1, 2));
            c.due("P3: none comes", Checks.NOT, x.goBack(0));
        }
    }

    private static void landMakesAllNew() {
        SevenBlows x = c.land(SMALL);
        x.seed(7);
        x.drift(2);
        x.attempt(0, 0, 1);
        x.belt(1, 8);
        x.note(1, 1, 3);
        x.keep(0);
        x.keep(1);
        int seed = x.seed(0);
        x.seed(seed);
        Checks.feed(x, SMALL);
        c.due("P3: PEOPLE", 2, x.land());
        SevenBlows like = c.land(SMALL);
        like.seed(seed);
        c.same("P3: as new, but for THE SEED", Checks.all(like) + Checks.ground(like), Checks.all(x) + Checks.ground(x));
        c.due("P3: day 0", 0, x.told(6));
        c.due("P3: no BOOK", 0, x.told(8));
        c.due("P3: IMAGE 0 is gone", Checks.NOT, x.goBack(0));
        c.due("P3: IMAGE 1 is gone", Checks.NOT, x.goBack(1));
        c.due("P3: the TRICK may be used", 1, x.attempt(0, 0, 1));
    }

    /** Neither of the land before, nor of a text with a FAULT, nor of the land before that. */
    private static void nothingOfEarlierLands() {
        String full = "p6;" + FIVE_FIGHTERS + TEN_CHATS + SIX_TASKS + FOUR_TRICKS + "e0 0 9;e5 4 8;";
        String small = "p6;" + "f0 5 0;".repeat(5) + "c2 3;e1 1 4;e0 0 3;";
        SevenBlows like = c.land(small);
        String due = Checks.all(like) + Checks.ground(like);
        SevenBlows x = c.land(full);
        Checks.feed(x, small);
        c.due("P3: a small one behind a full one", 6, x.land());
        c.same("P3: just the small one", due, Checks.all(x) + Checks.ground(x));
        Checks.feed(x, small);
        c.due("P3: and once more", 6, x.land());
        c.same("P3: once more just the small one", due, Checks.all(x) + Checks.ground(x));
        Checks.feed(x, "p1;f0 1 1;");
        c.due("P3: a least one", 1, x.land());
        c.due("P7: untold there", 0, x.thinks(0, 0));
        x = new SevenBlows();
        Checks.feed(x, full + "x");
        c.due("P3: a FAULT at the end of a full one", -11, x.land());
        Checks.feed(x, small);
        c.due("P3: a small one behind it", 6, x.land());
        c.same("P3: just that", due, Checks.all(x) + Checks.ground(x));
    }

    private static void seedStays() {
        for (int seed : new int[] {0, 1, Integer.MAX_VALUE}) {
            SevenBlows x = new SevenBlows();
            x.seed(seed);
            Checks.feed(x, "p1;");
            x.land();
            c.due("P3: THE SEED stays " + seed, seed, x.seed(0));
        }
    }

    private static void toldBounds() {
        SevenBlows x = c.land(SMALL);
        Checks.feed(x, "p1");
        x.drift(3);
        x.note(0, 0, 0);
        int all = x.thinks(0, 0) + x.thinks(0, 1) + x.thinks(1, 0) + x.thinks(1, 1);
        int[] due = {2, 2, 1, 1, 1, 2, 3, all, 1};
        for (int what = 0; what <= 8; what++) {
            c.due("P5: told " + what, due[what], x.told(what));
        }
        for (int what : new int[] {-1, 9, 10, Integer.MIN_VALUE, Integer.MAX_VALUE}) {
            c.due("P5: told " + what, Checks.OUTSIDE, x.told(what));
        }
    }
}
