/** The edges of promises 25 to 30: THE BOOK, THE SEED, IMAGES. */
public final class BookEdgesTest {
    private static final Checks c = new Checks();
    private static final String LAND = "p2;f0 10 50;f3 20 60;c0 1;t0 5 7 3;r0 1 0;e0 0 5;e1 1 9;";

    public static void main(String[] args) {
        noteFrom0To99();
        noteOfTheFirstAndTheLast();
        book15();
        bookIsOneForAll();
        tearOfNothing();
        judgeOfNothing();
        judgeTheFirstWrong();
        judgeJustBeside();
        judgeOneTwice();
        seedAtTheEnds();
        seedIsWhatDrawsLeft();
        imagesAreTwo();
        imageOfNothing();
        goBackNeedsKeep();
        goBackToEachThing();
        goBackOfAll();
        goBackLeavesTheRest();
        goBackAgain();
        keepOver();
        imagesGoByLandAlone();
        c.end();
    }

    private static void noteFrom0To99() {
        for (int much = 0; much <= 99; much++) {
            SevenBlows x = c.land("p1;f0 1 1;e0 0 " + much + ";");
            c.due("P25: " + much, 1, x.note(0, 0, much));
            c.due("P27: it is so", Checks.NONE, x.judge());
        }
        SevenBlows x = c.land("p1;f0 1 1;");
        for (int much : new int[] {-1, 100, Integer.MIN_VALUE, Integer.MAX_VALUE}) {
            c.due("P25: " + much, Checks.OUTSIDE, x.note(0, 0, much));
            c.due("P25: UNKNOWN ahead of OUTSIDE, PERSON", Checks.UNKNOWN, x.note(1, 0, much));
            c.due("P25: UNKNOWN ahead of OUTSIDE, FIGHTER", Checks.UNKNOWN, x.note(0, 1, much));
        }
        c.due("P5: no entry by these", 0, x.told(8));
    }

    private static void noteOfTheFirstAndTheLast() {
        SevenBlows x = c.land("p6;" + "f0 9 9;".repeat(5) + "e0 0 1;e0 4 2;e5 0 3;e5 4 4;");
        c.due("P25: the first of the first", 1, x.note(0, 0, 1));
        c.due("P25: the first of the last", 2, x.note(0, 4, 2));
        c.due("P25: the last of the first", 3, x.note(5, 0, 3));
        c.due("P25: the last of the last", 4, x.note(5, 4, 4));
        c.due("P27: all are so", Checks.NONE, x.judge());
        c.due("P25: PERSON 6", Checks.UNKNOWN, x.note(6, 0, 1));
        c.due("P25: FIGHTER 5", Checks.UNKNOWN, x.note(0, 5, 1));
        c.due("P25: PERSON -1", Checks.UNKNOWN, x.note(-1, 0, 1));
        c.due("P25: FIGHTER -1", Checks.UNKNOWN, x.note(0, -1, 1));
        c.due("P25: nobody", Checks.UNKNOWN, new SevenBlows().note(0, 0, 0));
        c.due("P25: no FIGHTER", Checks.UNKNOWN, c.land("p1;").note(0, 0, 0));
    }

    private static void book15() {
        SevenBlows x = c.land(LAND);
        for (int i = 1; i <= 15; i++) {
            c.due("P25: entry " + i, i, x.note(0, 0, 5));
        }
        c.due("P25: a sixteenth", Checks.FULL, x.note(0, 0, 5));
        c.due("P25: a sixteenth that is wrong", Checks.FULL, x.note(1, 1, 0));
        c.due("P25: OUTSIDE ahead of FULL", Checks.OUTSIDE, x.note(0, 0, 100));
        c.due("P25: UNKNOWN ahead of FULL", Checks.UNKNOWN, x.note(2, 0, 5));
        c.due("P5: fifteen", 15, x.told(8));
        c.due("P27: none is wrong", Checks.NONE, x.judge());
        c.due("P26: fifteen", 15, x.tear());
        for (int i = 1; i <= 15; i++) {
            c.due("P25: entry anew " + i, i, x.note(0, 0, 5));
        }
        c.due("P25: FULL anew", Checks.FULL, x.note(0, 0, 5));
    }

    private static void bookIsOneForAll() {
        SevenBlows x = c.land(LAND);
        c.due("P25: of one", 1, x.note(0, 0, 5));
        c.due("P25: of another", 2, x.note(1, 1, 9));
        c.due("P5: two", 2, x.told(8));
    }

    private static void tearOfNothing() {
        c.due("P26: nobody's", 0, new SevenBlows().tear());
        SevenBlows x = c.land(LAND);
        c.due("P26: empty", 0, x.tear());
        x.note(0, 0, 0);
        c.due("P26: one", 1, x.tear());
        c.due("P26: empty again", 0, x.tear());
        c.due("P5: none", 0, x.told(8));
    }

    private static void judgeOfNothing() {
        c.due("P27: nobody's", Checks.NONE, new SevenBlows().judge());
        SevenBlows x = c.land(LAND);
        c.due("P27: empty", Checks.NONE, x.judge());
        x.note(0, 0, 99);
        c.due("P27: wrong", 0, x.judge());
        x.tear();
        c.due("P27: torn", Checks.NONE, x.judge());
    }

    private static void judgeTheFirstWrong() {
        for (int wrong = 0; wrong < 15; wrong++) {
            SevenBlows x = c.land(LAND);
            for (int i = 0; i < 15; i++) {
                x.note(i % 2, i % 2, (i % 2 == 0 ? 5 : 9) + (i == wrong || i == wrong + 3 ? 1 : 0));
            }
            c.due("P27: the entry " + wrong, wrong, x.judge());
        }
    }

    private static void judgeJustBeside() {
        int[][] edges = {{4, 0}, {5, Checks.NONE}, {6, 0}};
        for (int[] edge : edges) {
            SevenBlows x = c.land(LAND);
            x.note(0, 0, edge[0]);
            c.due("P27: 5 is told as " + edge[0], edge[1], x.judge());
        }
        SevenBlows x = c.land(LAND);
        x.note(0, 1, 0);
        c.due("P27: untold is 0", Checks.NONE, x.judge());
        x.read(0, 1);
        c.due("P27: otherwise since", 0, x.judge());
        x.tear();
        x.note(0, 1, 60);
        c.due("P27: as it is now", Checks.NONE, x.judge());
    }

    private static void judgeOneTwice() {
        SevenBlows x = c.land(LAND);
        x.note(0, 0, 5);
        x.note(0, 0, 6);
        c.due("P27: the second of one", 1, x.judge());
        x.note(0, 0, 5);
        c.due("P27: still the second", 1, x.judge());
    }

    private static void seedAtTheEnds() {
        SevenBlows x = new SevenBlows();
        c.due("P28: 0 at first", 0, x.seed(2147483647));
        c.due("P28: the greatest is let in", 2147483647, x.seed(0));
        c.due("P28: the least, too", 0, x.seed(1));
        c.due("P28: 1 below", Checks.OUTSIDE, x.seed(-1));
        c.due("P28: far below", Checks.OUTSIDE, x.seed(Integer.MIN_VALUE));
        c.due("P28: stays", 1, x.seed(2147483646));
        c.due("P28: next to the greatest", 2147483646, x.seed(5));
        c.due("P28: no day by it", 0, x.told(6));
    }

    private static void seedIsWhatDrawsLeft() {
        SevenBlows x = c.land(LAND);
        x.drift(1);
        c.due("P28: three DRAWS from 0", 654583775, x.seed(2147483647));
        x.drift(1);
        int left = x.seed(0);
        c.holds("P28: within its bounds", left >= 0);
        x.drift(1);
        c.due("P28: from 0 again", 654583775, x.seed(0));
    }

    private static void imagesAreTwo() {
        SevenBlows x = c.land(LAND);
        c.due("P29: IMAGE 0", 1, x.keep(0));
        c.due("P29: IMAGE 1", 1, x.keep(1));
        c.due("P30: IMAGE 0", 1, x.goBack(0));
        c.due("P30: IMAGE 1", 1, x.goBack(1));
        for (int i : new int[] {-1, 2, 3, Integer.MIN_VALUE, Integer.MAX_VALUE}) {
            c.due("P29: IMAGE " + i, Checks.UNKNOWN, x.keep(i));
            c.due("P30: IMAGE " + i, Checks.UNKNOWN, x.goBack(i));
        }
    }

    private static void imageOfNothing() {
        SevenBlows x = new SevenBlows();
        x.seed(6);
        c.due("P29: of nobody", 1, x.keep(0));
        x.seed(7);
        c.due("P30: of nobody", 1, x.goBack(0));
        c.due("P30: THE SEED is kept all the same", 6, x.seed(0));
        c.due("P30: the other was not kept", Checks.NOT, x.goBack(1));
    }

    private static void goBackNeedsKeep() {
        SevenBlows x = c.land(LAND);
        c.due("P30: none kept, 0", Checks.NOT, x.goBack(0));
        c.due("P30: none kept, 1", Checks.NOT, x.goBack(1));
        c.due("P30: UNKNOWN ahead of NOT", Checks.UNKNOWN, x.goBack(2));
        x.keep(1);
        c.due("P30: 1 kept, 0", Checks.NOT, x.goBack(0));
        c.due("P30: 1 kept, 1", 1, x.goBack(1));
        x = c.land(LAND);
        x.keep(0);
        c.due("P30: 0 kept, 1", Checks.NOT, x.goBack(1));
        c.due("P30: 0 kept, 0", 1, x.goBack(0));
    }

    /** One thing is otherwise since, and is as it was again. */
    private static void backFrom(String what, Checks.Way since) {
        for (int i = 0; i < 2; i++) {
            SevenBlows x = c.land(LAND);
            x.seed(11);
            x.drift(2);
            String then = Checks.all(x);
            c.due("P29: keep " + i, 1, x.keep(i));
            since.lead(x);
            c.holds("P30: otherwise by " + what, !then.equals(Checks.all(x)));
            c.due("P30: go back to " + i, 1, x.goBack(i));
            c.same("P30: back from " + what, then, Checks.all(x));
        }
    }

    private static void goBackToEachThing() {
        backFrom("a BELT", x -> x.belt(0, 99));
        backFrom("the last BELT", x -> x.belt(1, 1));
        backFrom("what one THINKS", x -> x.read(1, 0));
        backFrom("what the first THINKS", x -> {
            x.belt(0, 98);
            x.read(0, 0);
        });
        backFrom("a TASK done", x -> x.attempt(0, 0, 0));
        backFrom("a TRICK used", x -> x.attempt(1, 0, 1));
        backFrom("days", x -> x.drift(1));
        backFrom("many days", x -> x.drift(99));
        backFrom("THE SEED", x -> x.seed(2147483647));
    }

    /** As many PEOPLE, FIGHTERS, TASKS and TRICKS as there can be. */
    private static void goBackOfAll() {
        SevenBlows x = c.land("p6;" + "f0 9 30;".repeat(5) + "t5 9 1 4;".repeat(6) + "r0 1 0;r1 1 0;r2 1 0;r5 1 0;");
        for (int f = 0; f < 5; f++) {
            x.attempt(f, f + 1, f == 4 ? 8 : 0);
        }
        String then = Checks.all(x);
        x.keep(1);
        for (int f = 0; f < 5; f++) {
            x.belt(f, 40 + f);
            x.attempt(f, f, f < 3 ? 1 << f : 0);
            x.read(5 - f, f);
        }
        x.drift(50);
        c.holds("P30: all is otherwise", !then.equals(Checks.all(x)));
        x.goBack(1);
        c.same("P30: all is as it was", then, Checks.all(x));
    }

    private static void goBackLeavesTheRest() {
        SevenBlows x = c.land(LAND);
        x.note(0, 0, 5);
        x.keep(0);
        x.note(1, 1, 8);
        Checks.feed(x, "p9");
        c.due("P30: back", 1, x.goBack(0));
        c.due("P5: THE BOOK is as it is", 2, x.told(8));
        c.due("P27: wrong as it is", 1, x.judge());
        c.due("P5: THE TEXT is as it is", 2, x.told(5));
        c.due("P3: it has its FAULT", -12, x.land());
        c.due("P30: back again", 1, x.goBack(0));
        c.due("P4: the FAULT is as it is", 1, x.fault());
    }

    private static void goBackAgain() {
        SevenBlows x = c.land(LAND);
        x.keep(0);
        for (int i = 0; i < 3; i++) {
            x.belt(0, 77 + i);
            x.attempt(0, 0, 1);
            c.due("P30: back " + i, 1, x.goBack(0));
            c.due("P30: the BELT " + i, 50, x.fighter(0, 2));
            c.due("P30: nothing done " + i, 0, x.fighter(0, 4));
            c.due("P30: no TRICK used " + i, 0, x.fighter(0, 5));
        }
        x.drift(3);
        x.goBack(0);
        c.due("P16: days from those of the IMAGE on", 2, x.drift(2));
    }

    private static void keepOver() {
        SevenBlows x = c.land(LAND);
        x.keep(0);
        x.belt(0, 1);
        x.keep(1);
        x.belt(0, 2);
        x.keep(0);
        x.belt(0, 3);
        x.goBack(0);
        c.due("P29: the latest 0", 2, x.fighter(0, 2));
        x.goBack(1);
        c.due("P29: 1 is another", 1, x.fighter(0, 2));
        x.keep(0);
        x.goBack(0);
        c.due("P29: 0 as 1 was", 1, x.fighter(0, 2));
    }

    private static void imagesGoByLandAlone() {
        SevenBlows x = c.land(LAND);
        x.keep(0);
        x.keep(1);
        Checks.feed(x, "p9;");
        c.due("P3: a FAULT", -12, x.land());
        c.due("P30: 0 is there", 1, x.goBack(0));
        c.due("P30: 1 is there", 1, x.goBack(1));
        x.land();
        c.due("P30: 0 is gone", Checks.NOT, x.goBack(0));
        c.due("P30: 1 is gone", Checks.NOT, x.goBack(1));
    }
}
