/** Long runs of calls by draws, of at most 512 calls an object, each answer held against Model's. */
public final class ModelTest {
    private static final int RUNS = 6000;
    private static final String[] CALLS = {
        "land", "fault", "told", "fighter", "thinks", "chats", "task", "trick", "read", "rumour", "inspect", "belt", "attempt",
        "drift", "plan", "stops", "write", "tells", "words", "hire", "saw", "hides", "note", "tear", "judge", "seed", "keep", "goBack"
    };
    private static final int[] OFTEN = {0, 1, 4, 8, 6, 1, 2, 1, 5, 4, 3, 5, 10, 1, 10, 4, 8, 5, 4, 6, 8, 1, 4, 1, 4, 1, 1, 1};
    private static final int[] ODD = {-1, -2, 6, 7, 99, 100, 101, 255, 256, Integer.MAX_VALUE, Integer.MIN_VALUE, -1000000001};

    private static final Checks c = new Checks();
    private static final int[] hits = new int[CALLS.length];
    private static long state = 20261118;
    private static SevenBlows x;
    private static Model model;
    private static int run;
    private static int calls;

    public static void main(String[] args) {
        for (run = 0; run < RUNS; run++) {
            x = new SevenBlows();
            model = new Model();
            calls = 0;
            tell(run % 4 == 3);
            boolean retold = false;
            while (calls < 512) {
                if (!retold && calls > 300 && run % 5 == 0) {
                    retold = true;
                    tell(run % 2 == 0);
                }
                anyCall();
            }
        }
        for (int i = 1; i < CALLS.length; i++) {
            c.holds(CALLS[i] + " was called", hits[i] > 1000);
        }
        c.end();
    }

    private static int any(int n) {
        state = state * 6364136223846793005L + 1442695040888963407L;
        return (int) ((state >>> 33) % n);
    }

    /** Answers due of the model; the objects get their 512 calls and no more. */
    private static void ask(String name, int a, int b, int d) {
        if (calls >= 512) {
            return;
        }
        calls++;
        c.due("run " + run + ", call " + calls + ": " + name + " " + a + " " + b + " " + d, model.call(name, a, b, d), call(name, a, b, d));
    }

    private static void anyCall() {
        int all = 0;
        for (int often : OFTEN) {
            all += often;
        }
        int k = any(all);
        int i = 0;
        while (k >= OFTEN[i]) {
            k -= OFTEN[i];
            i++;
        }
        hits[i]++;
        switch (CALLS[i]) {
            case "belt" -> ask("belt", small(), much(), 0);
            case "attempt" -> ask("attempt", small(), small(), tricks());
            case "drift" -> ask("drift", any(6) == 0 ? odd() : 1 + any(9), 0, 0);
            case "plan" -> ask("plan", small(), any(20) == 0 ? odd() : any(8) - 1, any(30) == 0 ? odd() : any(2));
            case "write" -> ask("write", any(3) == 0 ? -1 : small(), 0, 0);
            case "tells" -> ask("tells", any(2) == 0 ? worn() : much(), much(), any(30) == 0 ? odd() : any(2));
            case "hides" -> ask("hides", any(11), any(104) - 1, 0);
            case "note" -> ask("note", small(), small(), any(2) == 0 ? 0 : much());
            case "seed" -> ask("seed", any(3) == 0 ? odd() : any(Integer.MAX_VALUE), 0, 0);
            case "keep", "goBack" -> ask(CALLS[i], any(8) == 0 ? odd() : any(2), 0, 0);
            case "told", "fighter", "task" -> ask(CALLS[i], CALLS[i].equals("told") ? any(11) - 1 : small(), any(9) - 1, 0);
            case "saw" -> ask("saw", small(), small(), any(30) == 0 ? odd() : any(2));
            default -> ask(CALLS[i], small(), small(), 0);
        }
    }

    private static int tricks() {
        if (any(30) == 0) {
            return odd();
        }
        return any(3) == 0 ? any(17) : any(2) << any(5);
    }

    /** What some belt reads, so that it tells something. */
    private static int worn() {
        calls++;
        return x.fighter(any(2), 3);
    }

    private static int odd() {
        return ODD[any(ODD.length)];
    }

    private static int small() {
        return any(40) == 0 ? odd() : any(any(2) == 0 ? 3 : 6);
    }

    private static int much() {
        return any(30) == 0 ? odd() : any(3) == 0 ? any(100) : any(11) * 9;
    }

    /** A land that fits mostly; spoiled, one letter of it is another. */
    private static void tell(boolean spoiled) {
        StringBuilder s = new StringBuilder();
        int people = 1 + any(6);
        int fighters = any(20) == 0 ? 0 : 1 + any(5);
        int tasks = any(10) == 0 ? 0 : 1 + any(6);
        s.append('p').append(people).append(';');
        for (int f = 0; f < fighters; f++) {
            int kind = any(3) == 0 ? 0 : any(5);
            int strength = any(any(3) == 0 ? 100 : 40);
            s.append('f').append(kind).append(' ').append(strength).append(' ').append(any(100)).append(';');
        }
        for (int t = 0; t < tasks; t++) {
            int worth = any(3) == 0 ? 0 : any(2) == 0 ? 5 : any(100);
            s.append('t').append(any(people)).append(' ').append(any(any(2) == 0 ? 100 : 60)).append(' ')
                .append(worth).append(' ').append(any(21)).append(';');
        }
        for (int r = 0; tasks > 0 && r < any(5); r++) {
            s.append('r').append(any(tasks)).append(' ').append(1 + any(60)).append(' ').append(any(2) * any(60)).append(';');
        }
        for (int i = 0; i < people * 2 && people > 1; i++) {
            int a = any(people);
            int b = any(people);
            String pair = Math.min(a, b) + " " + Math.max(a, b);
            if (a != b && s.indexOf("c" + pair) < 0 && any(8) > 0 && i < 10) {
                s.append('c').append(pair).append(';');
            }
        }
        for (int i = 0; i < any(8) && fighters > 0; i++) {
            String of = "e" + any(people) + " " + any(fighters) + " ";
            if (s.indexOf(of) < 0) {
                s.append(of).append(any(100)).append(';');
            }
        }
        if (s.length() > 250) {
            s.setLength(250);
        }
        if (spoiled) {
            spoil(s);
        }
        for (int i = 0; i < s.length(); i++) {
            ask("feed", s.charAt(i), 0, 0);
        }
        ask("land", 0, 0, 0);
        ask("fault", 0, 0, 0);
    }

    private static void spoil(StringBuilder s) {
        String letters = "0123456789 ;pfctre;  0x-";
        for (int n = 1 + any(2); n > 0; n--) {
            int at = any(s.length());
            char letter = letters.charAt(any(letters.length()));
            switch (any(4)) {
                case 0 -> s.setCharAt(at, letter);
                case 1 -> s.insert(at, letter);
                case 2 -> s.setLength(at);
                default -> s.deleteCharAt(at);
            }
            if (s.length() == 0) {
                s.append(letter);
            }
        }
        if (s.length() > 250) {
            s.setLength(250);
        }
    }

    private static int call(String name, int a, int b, int d) {
        return switch (name) {
            case "feed" -> x.feed(a);
            case "land" -> x.land();
            case "fault" -> x.fault();
            case "told" -> x.told(a);
            case "fighter" -> x.fighter(a, b);
            case "thinks" -> x.thinks(a, b);
            case "chats" -> x.chats(a);
            case "task" -> x.task(a, b);
            case "trick" -> x.trick(a, b);
            case "read" -> x.read(a, b);
            case "rumour" -> x.rumour(a);
            case "inspect" -> x.inspect(a, b);
            case "belt" -> x.belt(a, b);
            case "attempt" -> x.attempt(a, b, d);
            case "drift" -> x.drift(a);
            case "plan" -> x.plan(a, b, d);
            case "stops" -> x.stops(a);
            case "write" -> x.write(a);
            case "tells" -> x.tells(a, b, d);
            case "words" -> x.words(a, b);
            case "hire" -> x.hire(a, b);
            case "saw" -> x.saw(a, b, d);
            case "hides" -> x.hides(a, b);
            case "note" -> x.note(a, b, d);
            case "tear" -> x.tear();
            case "judge" -> x.judge();
            case "seed" -> x.seed(a);
            case "keep" -> x.keep(a);
            case "goBack" -> x.goBack(a);
            default -> throw new IllegalArgumentException(name);
        };
    }
}
