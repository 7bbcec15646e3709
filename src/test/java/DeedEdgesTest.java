/** The edges of promises 11 to 16 and of KINDS, READ, RUMOUR, INSPECTED, tasks tried, days BY DRAWS. */
public final class DeedEdgesTest {
    private static final Checks c = new Checks();

    public static void main(String[] args) {
        readsOnlyIfMore();
        readsAtTheEnds();
        rumourWithoutChats();
        rumourAllAtOnce();
        rumourCountsThoseWhoRise();
        rumourAt99();
        inspectedAtTheEnds();
        borrowedIsGone();
        borrowedOnlyByInspection();
        beltAtTheEnds();
        strengthNoLess();
        thinksMoreThanDanger();
        allOfDangerNotWhatIsLeft();
        trickNeedsNoMore();
        dangerTo0AtLeast();
        tricksUsedAnyway();
        retiredPassesNone();
        fame99AtMost();
        fame0();
        failedThinksStrength();
        doneOnceEach();
        attemptOfAll();
        attemptOfNothing();
        driftFrom1To99();
        driftNeedsBoth();
        drawsAtTheSeedsEnds();
        drawsOfOne();
        daysByDraws();
        mostDaysAreNotFull();
        c.end();
    }

    // ---- promises 11 to 14

    private static void readsOnlyIfMore() {
        int[][] edges = {{50, 49, 50}, {50, 50, 50}, {50, 51, 51}, {0, 0, 0}, {0, 1, 1}, {1, 0, 1}, {98, 99, 99}, {99, 98, 99}, {99, 99, 99}};
        for (int[] edge : edges) {
            SevenBlows x = c.land("p2;f0 7 " + edge[1] + ";e0 0 " + edge[0] + ";");
            c.due("P11: THINKS " + edge[0] + ", READS " + edge[1], edge[2], x.read(0, 0));
            c.due("P7: and THINKS it then", edge[2], x.thinks(0, 0));
            c.due("P11: the other PERSON did not READ", 0, x.thinks(1, 0));
            c.due("P6: the BELT stays", edge[1], x.fighter(0, 2));
        }
    }

    private static void readsAtTheEnds() {
        String text = "p6;f0 1 99;f1 1 99;f2 1 65;f3 1 98;f4 1 97;";
        int[] due = {99, 0, 97, 98, 97};
        for (int f = 0; f < 5; f++) {
            for (int p : new int[] {0, 5}) {
                SevenBlows x = c.land(text);
                c.due("P11: PERSON " + p + " READS " + f, due[f], x.read(p, f));
                c.due("P11: nobody else did", due[f], x.told(7));
            }
        }
    }

    private static void rumourWithoutChats() {
        SevenBlows x = c.land("p6;f0 1 1;e0 0 99;e5 0 1;");
        c.due("P12: nobody CHATS", 0, x.rumour(0));
        c.due("P12: nobody heard", 100, x.told(7));
        c.due("P12: one PERSON", 0, c.land("p1;f0 1 1;e0 0 9;").rumour(0));
    }

    private static void thoughts(String label, SevenBlows x, int f, int... due) {
        for (int p = 0; p < due.length; p++) {
            c.due(label + ": PERSON " + p, due[p], x.thinks(p, f));
        }
    }

    private static void rumourAllAtOnce() {
        String chain = "p6;f0 1 1;f0 1 1;c0 1;c2 1;c2 3;c4 3;c4 5;";
        SevenBlows x = c.land(chain + "e0 0 9;");
        for (int told = 1; told <= 5; told++) {
            c.due("P12: up, " + told, 1, x.rumour(0));
            for (int p = 0; p < 6; p++) {
                c.due("P12: up to " + told + ", PERSON " + p, p <= told ? 9 : 0, x.thinks(p, 0));
            }
        }
        c.due("P12: up, all told", 0, x.rumour(0));
        x = c.land(chain + "e5 1 9;");
        for (int told = 4; told >= 0; told--) {
            c.due("P12: down, " + told, 1, x.rumour(1));
            for (int p = 0; p < 6; p++) {
                c.due("P12: down to " + told + ", PERSON " + p, p >= told ? 9 : 0, x.thinks(p, 1));
            }
        }
        c.due("P12: of the other nobody heard", 6 * 9, x.told(7));
    }

    private static void rumourCountsThoseWhoRise() {
        String star = "p6;f0 1 1;c5 0;c5 1;c5 2;c5 3;c5 4;";
        SevenBlows x = c.land(star + "e5 0 10;e0 0 9;e1 0 10;e2 0 11;");
        c.due("P12: who THOUGHT less, and he by the most", 4, x.rumour(0));
        thoughts("P12: then", x, 0, 10, 10, 11, 10, 10, 11);
        x = c.land(star + "e5 0 1;");
        c.due("P12: five of six", 5, x.rumour(0));
        x = c.land("p6;f0 1 1;c0 1;c2 3;c4 5;c0 5;c1 2;c3 4;e0 0 1;e1 0 2;e2 0 3;e3 0 4;e4 0 5;e5 0 6;");
        c.due("P12: all but the most", 5, x.rumour(0));
        thoughts("P12: in a ring", x, 0, 6, 3, 4, 5, 6, 6);
    }

    private static void rumourAt99() {
        SevenBlows x = c.land("p2;f0 1 1;c0 1;e0 0 99;e1 0 98;");
        c.due("P12: from 98 to 99", 1, x.rumour(0));
        thoughts("P12: both", x, 0, 99, 99);
        c.due("P12: no more than 99", 0, x.rumour(0));
        c.due("P12: of 0 nobody THINKS more", 0, c.land("p2;f0 1 1;c0 1;").rumour(0));
    }

    private static void inspectedAtTheEnds() {
        for (int strength : new int[] {0, 1, 50, 98, 99}) {
            for (int before : new int[] {0, 49, 50, 51, 99}) {
                SevenBlows x = c.land("p2;f0 " + strength + " 7;e0 0 " + before + ";e1 0 " + before + ";");
                c.due("P13: STRENGTH " + strength, strength, x.inspect(0, 0));
                thoughts("P13: was " + before, x, 0, strength, before);
                c.due("P13: the BELT stays", 7, x.fighter(0, 2));
            }
        }
        SevenBlows x = c.land("p6;" + "f0 9 9;".repeat(5));
        c.due("P13: last by last", 9, x.inspect(5, 4));
        c.due("P13: he alone", 9, x.told(7));
        c.due("P13: it was he", 9, x.thinks(5, 4));
    }

    private static void borrowedIsGone() {
        for (int b : new int[] {0, 1, 99}) {
            SevenBlows x = c.land("p2;f3 20 " + b + ";f3 20 33;");
            c.due("P6: borrowed READS till then", b, x.fighter(0, 3));
            c.due("P13: borrowed", 20, x.inspect(1, 0));
            c.due("P13: gone from " + b, 0, x.fighter(0, 2));
            c.due("P13: READS 0", 0, x.fighter(0, 3));
            c.due("P11: nothing more to READ", 0, x.read(0, 0));
            c.due("P13: another's stays", 33, x.fighter(1, 2));
            c.due("P13: inspected again", 20, x.inspect(1, 0));
            c.due("P14: gone is 0", 0, x.belt(0, 44));
            c.due("P14: he may write anew", 44, x.fighter(0, 3));
            c.due("P13: and again", 20, x.inspect(0, 0));
            c.due("P13: gone again", 0, x.fighter(0, 2));
        }
        for (int kind : new int[] {0, 1, 2, 4}) {
            SevenBlows x = c.land("p1;f" + kind + " 20 66;");
            x.inspect(0, 0);
            c.due("P13: of KIND " + kind + " it stays", 66, x.fighter(0, 2));
        }
    }

    private static void borrowedOnlyByInspection() {
        SevenBlows x = c.land("p2;f3 20 66;c0 1;t0 90 1 1;t1 5 1 1;");
        x.read(0, 0);
        x.rumour(0);
        c.due("a TASK not passed", 0, x.attempt(0, 0, 0));
        c.due("a TASK passed", 1, x.attempt(0, 1, 0));
        c.due("READING, RUMOURS, TASKS leave it", 66, x.fighter(0, 2));
    }

    private static void beltAtTheEnds() {
        SevenBlows x = c.land("p1;f0 5 50;f1 5 51;f2 5 52;f3 5 53;f4 5 54;");
        for (int f = 0; f < 5; f++) {
            c.due("P14: what it was", 50 + f, x.belt(f, 0));
            c.due("P14: 0 is let in", 0, x.belt(f, 99));
            c.due("P14: 99, too", 99, x.belt(f, 99));
            c.due("P14: -1 is not", Checks.OUTSIDE, x.belt(f, -1));
            c.due("P14: nor 100", Checks.OUTSIDE, x.belt(f, 100));
            c.due("P14: 99 stays", 99, x.fighter(f, 2));
        }
        c.due("P14: nobody READ it", 0, x.told(7));
    }

    // ---- promise 15

    private static void strengthNoLess() {
        int[][] edges = {{50, 49, 0}, {50, 50, 1}, {50, 51, 1}, {0, 0, 1}, {1, 0, 0}, {99, 99, 1}, {99, 98, 0}};
        for (int[] edge : edges) {
            SevenBlows x = c.land("p1;f0 " + edge[1] + " 9;t0 " + edge[0] + " 1 0;");
            c.due("P15: DANGER " + edge[0] + ", STRENGTH " + edge[1], edge[2], x.attempt(0, 0, 0));
            c.due("P6: done or not", edge[2], x.fighter(0, 4));
        }
    }

    private static void thinksMoreThanDanger() {
        int[][] edges = {{50, 49, 0}, {50, 50, 0}, {50, 51, 1}, {98, 99, 1}, {98, 98, 0}, {99, 99, 0}, {1, 1, 0}, {1, 2, 1}};
        for (int[] edge : edges) {
            SevenBlows x = c.land("p2;f0 0 9;f0 0 9;t1 " + edge[0] + " 1 0;e1 0 " + edge[1] + ";e0 0 99;e1 1 99;");
            c.due("P15: DANGER " + edge[0] + ", the GUARD THINKS " + edge[1], edge[2], x.attempt(0, 0, 0));
        }
    }

    private static void allOfDangerNotWhatIsLeft() {
        String text = "p1;f0 9 0;t0 60 1 0;r0 50 0;e0 0 ";
        c.due("P15: 10 are left, the GUARD THINKS 60", 0, c.land(text + "60;").attempt(0, 0, 1));
        c.due("P15: 10 are left, the GUARD THINKS 61", 1, c.land(text + "61;").attempt(0, 0, 1));
        c.due("P15: without the TRICK, too", 1, c.land(text + "61;").attempt(0, 0, 0));
        c.due("P15: 9 are left", 1, c.land("p1;f0 9 0;t0 59 1 0;r0 50 0;").attempt(0, 0, 1));
    }

    private static void trickNeedsNoMore() {
        int[][] edges = {{0, 0, 1}, {1, 0, 0}, {30, 29, 0}, {30, 30, 1}, {30, 31, 1}, {99, 98, 0}, {99, 99, 1}};
        for (int[] edge : edges) {
            SevenBlows x = c.land("p2;f0 5 0;t1 99 1 0;r0 94 " + edge[0] + ";e1 0 " + edge[1] + ";e0 0 99;");
            c.due("P15: N " + edge[0] + ", the GUARD THINKS " + edge[1], edge[2], x.attempt(0, 0, 1));
            c.due("P15: used or not, it is used", 1, x.fighter(0, 5));
        }
        SevenBlows x = c.land("p1;f0 5 0;t0 99 1 0;r0 93 0;");
        c.due("P15: one too little", 0, x.attempt(0, 0, 1));
    }

    private static void dangerTo0AtLeast() {
        String text = "p1;f0 0 0;t0 60 1 0;r0 99 0;r0 30 0;r0 30 0;r0 29 0;";
        c.due("P15: 99 of 60", 1, c.land(text).attempt(0, 0, 1));
        c.due("P15: 30 and 30 of 60", 1, c.land(text).attempt(0, 0, 6));
        c.due("P15: 30 and 29 of 60", 0, c.land(text).attempt(0, 0, 10));
        c.due("P15: all of them", 1, c.land(text).attempt(0, 0, 15));
        c.due("P15: none of them", 0, c.land(text).attempt(0, 0, 0));
        c.due("P15: 1 of 1", 1, c.land("p1;f0 0 0;t0 1 1 0;r0 1 0;").attempt(0, 0, 1));
        c.due("P15: 1 of 0", 1, c.land("p1;f0 0 0;t0 0 1 0;r0 1 0;").attempt(0, 0, 1));
    }

    private static void tricksUsedAnyway() {
        SevenBlows x = c.land("p1;f0 5 0;f0 5 0;t0 50 1 0;r0 1 0;r0 45 99;r0 45 0;r0 9 0;");
        c.due("P15: not passed", 0, x.attempt(0, 0, 3));
        c.due("P15: both are used", 3, x.fighter(0, 5));
        c.due("P15: by him alone", 0, x.fighter(1, 5));
        c.due("P15: used by failing", Checks.NOT, x.attempt(0, 0, 1));
        c.due("P15: used, with one that is not", Checks.NOT, x.attempt(0, 0, 6));
        c.due("P15: passed", 1, x.attempt(0, 0, 12));
        c.due("P15: all are used", 15, x.fighter(0, 5));
        c.due("P15: the other may use them", 1, x.attempt(1, 0, 15));
    }

    private static void retiredPassesNone() {
        SevenBlows x = c.land("p1;f4 99 99;t0 0 9 5;t0 1 9 5;r0 99 0;e0 0 99;");
        c.due("P15: no DANGER, all THOUGHT of him", 0, x.attempt(0, 0, 1));
        c.due("P15: not done", 0, x.fighter(0, 4));
        c.due("P15: the TRICK is used", 1, x.fighter(0, 5));
        c.due("P15: the GUARD THINKS his STRENGTH", 99, x.thinks(0, 0));
        c.due("P15: again, it is not done", 0, x.attempt(0, 0, 0));
        x = c.land("p1;f4 7 99;t0 0 9 5;e0 0 99;");
        c.due("P15: retired", 0, x.attempt(0, 0, 0));
        c.due("P15: THINKS 7 then", 7, x.thinks(0, 0));
    }

    private static void fame99AtMost() {
        int[][] edges = {{79, 20, 99}, {80, 20, 99}, {99, 20, 99}, {98, 1, 99}, {99, 1, 99}, {78, 20, 98}, {0, 20, 20}, {99, 0, 99}};
        for (int[] edge : edges) {
            SevenBlows x = c.land("p6;f0 50 0;f0 9 0;t3 50 1 " + edge[1] + ";e0 0 " + edge[0] + ";e5 0 " + edge[0] + ";e5 1 7;");
            c.due("P15: passed", 1, x.attempt(0, 0, 0));
            thoughts("P15: FAME " + edge[1], x, 0, edge[2], edge[1], edge[1], edge[1], edge[1], edge[2]);
            thoughts("P15: of another", x, 1, 0, 0, 0, 0, 0, 7);
        }
    }

    private static void fame0() {
        SevenBlows x = c.land("p2;f0 50 0;t0 50 0 0;e0 0 3;");
        c.due("P15: passed for nothing", 1, x.attempt(0, 0, 0));
        c.due("P15: nobody THINKS more", 3, x.told(7));
        c.due("P15: done", 1, x.fighter(0, 4));
        c.due("P15: V 0", 0, x.fighter(0, 6));
    }

    private static void failedThinksStrength() {
        for (int before : new int[] {0, 20, 21, 90}) {
            SevenBlows x = c.land("p3;f0 20 66;t1 90 5 9;e0 0 40;e1 0 " + before + ";e2 0 41;");
            c.due("P15: not passed", 0, x.attempt(0, 0, 0));
            thoughts("P15: his GUARD THOUGHT " + before, x, 0, 40, 20, 41);
            c.due("P15: not done", 0, x.fighter(0, 4));
            c.due("P15: no V", 0, x.fighter(0, 6));
        }
    }

    private static void doneOnceEach() {
        SevenBlows x = c.land("p1;f0 50 0;f0 50 0;t0 50 5 9;t0 50 6 9;r0 1 0;");
        c.due("P15: he", 1, x.attempt(0, 0, 0));
        c.due("P15: he again", Checks.NOT, x.attempt(0, 0, 0));
        c.due("P15: he again with a TRICK", Checks.NOT, x.attempt(0, 0, 1));
        c.due("P15: another TASK", 1, x.attempt(0, 1, 0));
        c.due("P15: another one, too", 1, x.attempt(1, 0, 1));
        c.due("P15: that one again", Checks.NOT, x.attempt(1, 0, 0));
        c.due("P15: FAME of two", 18, x.thinks(0, 0));
        c.due("P15: FAME of one", 9, x.thinks(0, 1));
        x = c.land("p1;f0 5 0;t0 50 5 9;");
        for (int i = 0; i < 3; i++) {
            c.due("P15: not passed, he may try again", 0, x.attempt(0, 0, 0));
        }
    }

    private static void attemptOfAll() {
        SevenBlows x = c.land("p6;" + "f0 9 30;".repeat(5) + "t5 9 1 4;".repeat(5) + "t5 99 99 20;" + "r5 30 0;".repeat(3) + "r4 1 0;");
        c.due("P15: the last tries the last by three TRICKS", 1, x.attempt(4, 5, 7));
        c.due("P15: a TRICK of another TASK", Checks.NOT, x.attempt(4, 4, 4));
        c.due("P15: one of it, one of another", Checks.NOT, x.attempt(4, 4, 9));
        c.due("P15: the last TRICK", 1, x.attempt(4, 4, 8));
        c.due("P15: all used", 15, x.fighter(4, 5));
        c.due("P15: V", 100, x.fighter(4, 6));
        thoughts("P15: all THINK", x, 4, 24, 24, 24, 24, 24, 24);
    }

    private static void attemptOfNothing() {
        SevenBlows x = new SevenBlows();
        c.due("P15: nobody", Checks.UNKNOWN, x.attempt(0, 0, 0));
        x = c.land("p1;f0 9 9;");
        c.due("P15: no TASK", Checks.UNKNOWN, x.attempt(0, 0, 0));
        x = c.land("p1;t0 1 1 1;");
        c.due("P15: no FIGHTER", Checks.UNKNOWN, x.attempt(0, 0, 0));
        x = c.land("p1;f0 9 9;t0 1 1 1;");
        c.due("P15: no TRICK", Checks.UNKNOWN, x.attempt(0, 0, 1));
        c.due("P15: nor the last bit", Checks.UNKNOWN, x.attempt(0, 0, Integer.MIN_VALUE));
        c.due("P15: without", 1, x.attempt(0, 0, 0));
    }

    // ---- promise 16

    private static void driftFrom1To99() {
        for (int n : new int[] {1, 2, 50, 98, 99}) {
            SevenBlows x = c.land("p2;f0 9 30;");
            c.due("P16: " + n + " days", n, x.drift(n));
            c.due("P5: days", n, x.told(6));
            c.due("P16: one more", n + 1, x.drift(1));
        }
        for (int n : new int[] {0, -1, 100, 101, Integer.MIN_VALUE, Integer.MAX_VALUE}) {
            SevenBlows x = c.land("p2;f0 9 30;");
            c.due("P16: " + n + " days", Checks.OUTSIDE, x.drift(n));
            c.due("P5: no day", 0, x.told(6));
            c.due("P28: no DRAW", 0, x.seed(0));
        }
    }

    private static void driftNeedsBoth() {
        String[] texts = {"", "p1;", "p6;t0 1 1 1;r0 1 1;"};
        for (String text : texts) {
            SevenBlows x = c.land(text);
            x.seed(5);
            c.due("P16: NOT, 1 day of '" + text + "'", Checks.NOT, x.drift(1));
            c.due("P16: NOT, 99 days of '" + text + "'", Checks.NOT, x.drift(99));
            c.due("P16: OUTSIDE ahead of NOT, 0 days of '" + text + "'", Checks.OUTSIDE, x.drift(0));
            c.due("P16: OUTSIDE ahead of NOT, 100 days of '" + text + "'", Checks.OUTSIDE, x.drift(100));
            c.due("P28: no DRAW", 5, x.seed(0));
            c.due("P5: no day", 0, x.told(6));
        }
        c.due("P16: one of each is enough", 1, c.land("p1;f0 1 1;").drift(1));
    }

    /** What THE SEED becomes, by remainders of long numbers, which are never below 0 here. */
    private static long next(long seed) {
        return (seed * 1103515245L % 2147483648L + 12345L) % 2147483648L;
    }

    private static void drawsAtTheSeedsEnds() {
        long[][] edges = {{0, 12345}, {1, 1103527590}, {2147483647L, 1043980748}, {2147483646L, 2087949151}, {2, 59559187}};
        for (long[] edge : edges) {
            c.due("the first DRAW from " + edge[0], edge[1], next(edge[0]));
            SevenBlows x = c.land("p3;f0 9 30;f3 8 40;");
            x.seed((int) edge[0]);
            x.drift(1);
            c.due("P16: three DRAWS from " + edge[0], next(next(next(edge[0]))), x.seed(0));
            x.seed((int) edge[0]);
            x.drift(99);
            long seed = edge[0];
            for (int draw = 0; draw < 297; draw++) {
                seed = next(seed);
            }
            c.due("P16: 297 DRAWS from " + edge[0], seed, x.seed(0));
        }
    }

    /** A DRAW of 1 is 0, but a DRAW all the same. */
    private static void drawsOfOne() {
        SevenBlows x = c.land("p1;f0 9 30;");
        x.seed(2147483647);
        x.drift(1);
        c.due("P16: three DRAWS of one and one", next(next(next(2147483647L))), x.seed(0));
    }

    /** Each day is what its DRAWS say, done by hand with one alike. */
    private static void daysByDraws() {
        int[] deeds = new int[3];
        boolean[] people = new boolean[6];
        boolean[] fighters = new boolean[5];
        for (int start = 0; start < 60; start++) {
            SevenBlows x = c.land(DRAWN);
            SevenBlows like = c.land(DRAWN);
            long seed = start < 30 ? start : 2147483647L - (start - 30) * 71234567L;
            x.seed((int) seed);
            for (int day = 1; day <= 5; day++) {
                seed = next(seed);
                int p = (int) (seed / 65536 % 6);
                seed = next(seed);
                int f = (int) (seed / 65536 % 5);
                seed = next(seed);
                int deed = (int) (seed / 65536 % 3);
                byHand(like, p, f, deed);
                people[p] = true;
                fighters[f] = true;
                deeds[deed]++;
                c.due("P16: day " + day, day, x.drift(1));
                sameThoughts("P16: from " + start + " day " + day, like, x);
            }
            c.due("P16: THE SEED then", seed, x.seed(0));
        }
        for (int deed : deeds) {
            c.holds("each deed was drawn", deed > 50);
        }
        c.holds("the first and the last PERSON were drawn", people[0] && people[5]);
        c.holds("the first and the last FIGHTER were drawn", fighters[0] && fighters[4]);
    }

    private static final String DRAWN = "p6;f0 10 40;f1 20 50;f2 30 60;f3 40 70;f4 50 80;c0 1;c1 2;c3 4;c4 5;e0 0 30;e5 4 90;e2 1 15;e3 3 20;";

    private static void byHand(SevenBlows x, int p, int f, int deed) {
        if (deed == 0) {
            x.read(p, f);
        } else if (deed == 1) {
            x.rumour(f);
        } else {
            x.inspect(p, f);
        }
    }

    private static void sameThoughts(String label, SevenBlows like, SevenBlows x) {
        for (int f = 0; f < 5; f++) {
            c.due(label + ": BELT " + f, like.fighter(f, 2), x.fighter(f, 2));
            for (int p = 0; p < 6; p++) {
                c.due(label + ": " + p + " of " + f, like.thinks(p, f), x.thinks(p, f));
            }
        }
    }

    /** 512 calls in all: more days cannot be, and these are no reason for FULL. */
    private static void mostDaysAreNotFull() {
        SevenBlows x = new SevenBlows();
        Checks.feed(x, "p1;f0 0 0;");
        x.land();
        for (int i = 1; i <= 501; i++) {
            c.due("P16: not FULL at " + 99 * i, 99 * i, x.drift(99));
        }
    }
}
