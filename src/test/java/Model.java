import java.util.ArrayList;
import java.util.Arrays;
import java.util.HashMap;
import java.util.List;
import java.util.Map;
import java.util.TreeSet;

/** The document done the long way: every row, set and way is walked through, nothing is thought ahead. */
final class Model {
    static final int NONE = -1, UNKNOWN = -1000000001, OUTSIDE = -1000000002, NOT = -1000000003, FULL = -1000000004;

    /** What a call is refused with. */
    private static final class Refused extends RuntimeException {
        private static final long serialVersionUID = 1L;
        final int by;

        Refused(int by) {
            super(null, null, false, false);
            this.by = by;
        }
    }

    /** A fault of the text. */
    private static final class Fault extends RuntimeException {
        private static final long serialVersionUID = 1L;
        final int number;
        final int at;

        Fault(int number, int at) {
            super(null, null, false, false);
            this.number = number;
            this.at = at;
        }
    }

    private static final class Told {
        int people = 0;
        final List<int[]> f = new ArrayList<>(), c = new ArrayList<>(), t = new ArrayList<>(), r = new ArrayList<>(), e = new ArrayList<>();
    }

    private static final class World {
        int[] belt = {};
        int[][] thinks = {};
        List<TreeSet<Integer>> done = new ArrayList<>(), used = new ArrayList<>();
        int days;
        long seed;

        World copy() {
            World w = new World();
            w.belt = belt.clone();
            w.thinks = new int[thinks.length][];
            for (int p = 0; p < thinks.length; p++) {
                w.thinks[p] = thinks[p].clone();
            }
            for (int i = 0; i < done.size(); i++) {
                w.done.add(new TreeSet<>(done.get(i)));
                w.used.add(new TreeSet<>(used.get(i)));
            }
            w.days = days;
            w.seed = seed;
            return w;
        }
    }

    private final StringBuilder text = new StringBuilder();
    private Told land = new Told();
    private World w = new World();
    private final Map<Integer, World> images = new HashMap<>();
    private final List<int[]> book = new ArrayList<>();
    private int faultPlace = NONE;

    int call(String name, int a, int b, int c) {
        try {
            return switch (name) {
                case "feed" -> feed(a);
                case "land" -> land();
                case "fault" -> faultPlace;
                case "told" -> told(a);
                case "fighter" -> fighter(a, b);
                case "thinks" -> person(a) + fighterIs(b) + w.thinks[a][b];
                case "chats" -> person(a) + chatSet(a);
                case "task" -> task(a, b);
                case "trick" -> trick(a, b);
                case "read" -> person(a) + fighterIs(b) + read(a, b);
                case "rumour" -> fighterIs(a) + rumour(a);
                case "inspect" -> person(a) + fighterIs(b) + inspect(a, b);
                case "belt" -> belt(a, b);
                case "attempt" -> attempt(a, b, c);
                case "drift" -> drift(a);
                case "plan" -> plan(a, b, c);
                case "stops" -> stops(a);
                case "write" -> write(a);
                case "tells" -> tells(a, b, c);
                case "words" -> words(a, b);
                case "hire" -> hire(a, b);
                case "saw" -> saw(a, b, c);
                case "hides" -> hides(a, b);
                case "note" -> note(a, b, c);
                case "tear" -> tear();
                case "judge" -> judge();
                case "seed" -> seed(a);
                case "keep" -> keep(a);
                case "goBack" -> goBack(a);
                default -> throw new IllegalArgumentException(name);
            };
        } catch (Refused refused) {
            return refused.by;
        }
    }

    private static int within(int x, int least, int most) {
        if (x < least || x > most) {
            throw new Refused(OUTSIDE);
        }
        return 0;
    }

    private static int known(int x, int count) {
        if (x < 0 || x >= count) {
            throw new Refused(UNKNOWN);
        }
        return 0;
    }

    private int person(int p) {
        return known(p, land.people);
    }

    private int fighterIs(int f) {
        return known(f, land.f.size());
    }

    // ---- text

    private int feed(int letter) {
        within(letter, 0, 255);
        if (text.length() == 250) {
            throw new Refused(FULL);
        }
        return text.append((char) letter).length();
    }

    private int land() {
        String whole = text.toString();
        text.setLength(0);
        try {
            land = parse(whole);
        } catch (Fault fault) {
            faultPlace = fault.at;
            return -10 - fault.number;
        }
        faultPlace = NONE;
        long seed = w.seed;
        w = new World();
        w.seed = seed;
        w.belt = new int[land.f.size()];
        w.thinks = new int[land.people][land.f.size()];
        for (int f = 0; f < land.f.size(); f++) {
            w.belt[f] = land.f.get(f)[2];
            w.done.add(new TreeSet<>());
            w.used.add(new TreeSet<>());
        }
        for (int[] e : land.e) {
            w.thinks[e[0]][e[1]] = e[2];
        }
        images.clear();
        book.clear();
        return land.people;
    }

    /** Words and numbers with their places; the end is an empty word. */
    private static List<String> tokens(String s, List<Integer> places) {
        List<String> all = new ArrayList<>();
        int i = 0;
        while (i < s.length()) {
            int j = i + 1;
            if (Character.isDigit(s.charAt(i)) && s.charAt(i) < 128) {
                while (j < s.length() && s.charAt(j) >= '0' && s.charAt(j) <= '9') {
                    j++;
                }
            }
            if (s.charAt(i) != ' ') {
                all.add(s.substring(i, j));
                places.add(i);
            }
            i = j;
        }
        all.add("");
        places.add(s.length());
        return all;
    }

    private static Told parse(String s) {
        List<Integer> places = new ArrayList<>();
        List<String> all = tokens(s, places);
        Told told = new Told();
        int k = 0;
        while (!all.get(k).isEmpty()) {
            String word = all.get(k);
            int at = places.get(k);
            if (!"pfctre".contains(word) || told.people == 0 && !word.equals("p")) {
                throw new Fault(1, at);
            }
            countFault(told, word, at);
            int n = word.equals("p") ? 1 : word.equals("c") ? 2 : word.equals("t") ? 4 : 3;
            int[] got = new int[n];
            for (int i = 0; i < n; i++) {
                got[i] = number(all.get(k + 1 + i), places.get(k + 1 + i));
                valueFault(told, word, got, i, places.get(k + 1 + i));
            }
            k += n + 1;
            if (!all.get(k).equals(";")) {
                throw new Fault(1, places.get(k));
            }
            k++;
            switch (word) {
                case "p" -> told.people = got[0];
                case "f" -> told.f.add(got);
                case "c" -> told.c.add(got);
                case "t" -> told.t.add(got);
                case "r" -> told.r.add(got);
                default -> told.e.add(got);
            }
        }
        return told;
    }

    private static int number(String token, int at) {
        if (!token.matches("[0-9]+")) {
            throw new Fault(1, at);
        }
        if (token.length() > 3) {
            throw new Fault(2, at);
        }
        return Integer.parseInt(token);
    }

    private static void countFault(Told told, String word, int at) {
        boolean over = switch (word) {
            case "p" -> told.people > 0;
            case "f" -> told.f.size() == 5;
            case "c" -> told.c.size() == 10;
            case "t" -> told.t.size() == 6;
            case "r" -> told.r.size() == 4;
            default -> false;
        };
        if (over) {
            throw new Fault(3, at);
        }
    }

    private static void valueFault(Told told, String word, int[] got, int i, int at) {
        int p = told.people - 1;
        int[] most = switch (word) {
            case "p" -> new int[] {6};
            case "f" -> new int[] {4, 99, 99};
            case "c" -> new int[] {p, p};
            case "t" -> new int[] {p, 99, 99, 20};
            case "r" -> new int[] {told.t.size() - 1, 99, 99};
            default -> new int[] {p, told.f.size() - 1, 99};
        };
        int least = word.equals("p") || word.equals("r") && i == 1 ? 1 : 0;
        if (got[i] < least || got[i] > most[i]) {
            throw new Fault(2, at);
        }
        if (i != 1) {
            return;
        }
        if (word.equals("c")) {
            boolean again = told.c.stream().anyMatch(c -> c[0] == got[0] && c[1] == got[1] || c[0] == got[1] && c[1] == got[0]);
            if (got[0] == got[1] || again) {
                throw new Fault(4, at);
            }
        }
        if (word.equals("e") && told.e.stream().anyMatch(e -> e[0] == got[0] && e[1] == got[1])) {
            throw new Fault(4, at);
        }
    }

    // ---- what is so

    private static int set(Iterable<Integer> of) {
        int set = 0;
        for (int k : of) {
            set += 1 << k;
        }
        return set;
    }

    private int told(int what) {
        within(what, 0, 8);
        int sum = Arrays.stream(w.thinks).flatMapToInt(Arrays::stream).sum();
        return new int[] {land.people, land.f.size(), land.c.size(), land.t.size(), land.r.size(), text.length(), w.days, sum, book.size()}[what];
    }

    private int kind(int f) {
        return land.f.get(f)[0];
    }

    private int strength(int f) {
        return land.f.get(f)[1];
    }

    private int reads(int f, int b) {
        return switch (kind(f)) {
            case 1 -> 0;
            case 2 -> Math.min(99, b * 3 / 2);
            default -> b;
        };
    }

    private int fighter(int f, int what) {
        fighterIs(f);
        within(what, 0, 6);
        int worth = w.done.get(f).stream().mapToInt(t -> land.t.get(t)[2]).sum();
        return new int[] {kind(f), strength(f), w.belt[f], reads(f, w.belt[f]), set(w.done.get(f)), set(w.used.get(f)), worth}[what];
    }

    private boolean chat(int p, int q) {
        return land.c.stream().anyMatch(c -> c[0] == p && c[1] == q || c[0] == q && c[1] == p);
    }

    private int chatSet(int p) {
        TreeSet<Integer> with = new TreeSet<>();
        for (int q = 0; q < land.people; q++) {
            if (chat(p, q)) {
                with.add(q);
            }
        }
        return set(with);
    }

    private TreeSet<Integer> tricksOf(int t) {
        TreeSet<Integer> of = new TreeSet<>();
        for (int r = 0; r < land.r.size(); r++) {
            if (land.r.get(r)[0] == t) {
                of.add(r);
            }
        }
        return of;
    }

    private int task(int t, int what) {
        known(t, land.t.size());
        within(what, 0, 4);
        return what == 4 ? set(tricksOf(t)) : land.t.get(t)[what];
    }

    private int trick(int r, int what) {
        known(r, land.r.size());
        within(what, 0, 2);
        return land.r.get(r)[what];
    }

    // ---- deeds

    private int read(int p, int f) {
        if (reads(f, w.belt[f]) > w.thinks[p][f]) {
            w.thinks[p][f] = reads(f, w.belt[f]);
        }
        return w.thinks[p][f];
    }

    private int rumour(int f) {
        World before = w.copy();
        int more = 0;
        for (int p = 0; p < land.people; p++) {
            for (int q = 0; q < land.people; q++) {
                if (chat(p, q) && before.thinks[q][f] > w.thinks[p][f]) {
                    w.thinks[p][f] = before.thinks[q][f];
                }
            }
            more += w.thinks[p][f] > before.thinks[p][f] ? 1 : 0;
        }
        return more;
    }

    private int inspect(int p, int f) {
        w.thinks[p][f] = strength(f);
        if (kind(f) == 3) {
            w.belt[f] = 0;
        }
        return strength(f);
    }

    private int belt(int f, int b) {
        fighterIs(f);
        within(b, 0, 99);
        int was = w.belt[f];
        w.belt[f] = b;
        return was;
    }

    private static boolean in(int set, int k) {
        return (set >> k) % 2 != 0;
    }

    private boolean tried(World at, int f, int t, int tricks) {
        int[] task = land.t.get(t);
        int thought = at.thinks[task[0]][f];
        int left = task[1];
        for (int r = 0; r < land.r.size(); r++) {
            if (in(tricks, r)) {
                at.used.get(f).add(r);
                if (land.r.get(r)[2] <= thought) {
                    left = Math.max(0, left - land.r.get(r)[1]);
                }
            }
        }
        boolean passes = kind(f) != 4 && (strength(f) >= left || thought > task[1]);
        if (passes) {
            at.done.get(f).add(t);
            for (int[] p : at.thinks) {
                p[f] = Math.min(99, p[f] + task[3]);
            }
        } else {
            at.thinks[task[0]][f] = strength(f);
        }
        return passes;
    }

    private boolean mayTry(World at, int f, int t, int tricks) {
        boolean may = !at.done.get(f).contains(t);
        for (int r = 0; r < land.r.size(); r++) {
            may &= !in(tricks, r) || land.r.get(r)[0] == t && !at.used.get(f).contains(r);
        }
        return may;
    }

    private int attempt(int f, int t, int tricks) {
        fighterIs(f);
        known(t, land.t.size());
        known(tricks, 1 << land.r.size());
        if (!mayTry(w, f, t, tricks)) {
            throw new Refused(NOT);
        }
        return tried(w, f, t, tricks) ? 1 : 0;
    }

    private int draw(int n) {
        w.seed = (w.seed * 1103515245L + 12345L) % (1L << 31);
        return (int) (w.seed / 65536 % n);
    }

    private int drift(int n) {
        within(n, 1, 99);
        if (land.people == 0 || land.f.isEmpty()) {
            throw new Refused(NOT);
        }
        for (int day = 0; day < n; day++) {
            int p = draw(land.people);
            int f = draw(land.f.size());
            switch (draw(3)) {
                case 0 -> read(p, f);
                case 1 -> rumour(f);
                default -> inspect(p, f);
            }
            w.days++;
        }
        return w.days;
    }

    // ---- tried

    /** A row as tasks and sets in turn. */
    private void rows(World at, int f, List<Integer> row, List<List<Integer>> all) {
        all.add(new ArrayList<>(row));
        for (int t = 0; t < land.t.size(); t++) {
            for (int tricks = 0; tricks < 1 << land.r.size(); tricks++) {
                if (!mayTry(at, f, t, tricks)) {
                    continue;
                }
                World next = at.copy();
                if (tried(next, f, t, tricks)) {
                    row.add(t);
                    row.add(tricks);
                    rows(next, f, row, all);
                    row.remove(row.size() - 1);
                    row.remove(row.size() - 1);
                    break;
                }
            }
        }
    }

    private int worth(List<Integer> row) {
        int sum = 0;
        for (int i = 0; i < row.size(); i += 2) {
            sum += land.t.get(row.get(i))[2];
        }
        return sum;
    }

    private static boolean ahead(List<Integer> a, List<Integer> b) {
        for (int i = 0; i < Math.min(a.size(), b.size()); i++) {
            if (!a.get(i).equals(b.get(i))) {
                return a.get(i) < b.get(i);
            }
        }
        return a.size() < b.size();
    }

    private int plan(int f, int i, int what) {
        fighterIs(f);
        within(what, 0, 1);
        List<List<Integer>> all = new ArrayList<>();
        rows(w, f, new ArrayList<>(), all);
        List<Integer> best = all.get(0);
        for (List<Integer> row : all) {
            if (worth(row) > worth(best) || worth(row) == worth(best) && ahead(row, best)) {
                best = row;
            }
        }
        if (i == NONE) {
            return worth(best);
        }
        return i < 0 || i >= best.size() / 2 ? NONE : best.get(2 * i + what);
    }

    private int stops(int f) {
        fighterIs(f);
        List<List<Integer>> all = new ArrayList<>();
        rows(w, f, new ArrayList<>(), all);
        TreeSet<Integer> passed = new TreeSet<>(w.done.get(f));
        for (List<Integer> row : all) {
            for (int i = 0; i < row.size(); i += 2) {
                passed.add(row.get(i));
            }
        }
        for (int t = 0; t < land.t.size(); t++) {
            if (!passed.contains(t)) {
                return t;
            }
        }
        return NONE;
    }

    private int brings(int[] belts, int f) {
        int followers = 0;
        for (int p = 0; p < land.people; p++) {
            boolean most = true;
            for (int g = 0; g < belts.length; g++) {
                int ofHim = Math.max(w.thinks[p][f], reads(f, belts[f]));
                most &= g == f || ofHim > Math.max(w.thinks[p][g], reads(g, belts[g]));
            }
            followers += most ? 1 : 0;
        }
        int above = Math.max(0, reads(f, belts[f]) - strength(f));
        return 10 * followers - above / 10 * 3;
    }

    private int write(int f) {
        if (f != NONE) {
            fighterIs(f);
        }
        int[] belts = w.belt.clone();
        for (int round = 1; round <= 20; round++) {
            int[] before = belts.clone();
            for (int g = 0; g < belts.length; g++) {
                int best = 0;
                int bring = Integer.MIN_VALUE;
                for (int b = 0; b <= 90; b += 10) {
                    belts[g] = b;
                    if (brings(belts, g) > bring) {
                        bring = brings(belts, g);
                        best = b;
                    }
                }
                belts[g] = best;
            }
            if (Arrays.equals(before, belts)) {
                return f == NONE ? round - 1 : belts[f];
            }
        }
        return NONE;
    }

    private int tells(int b, int s, int part) {
        within(b, 0, 99);
        within(s, 0, 99);
        within(part, 0, 1);
        int above = 0;
        int below = 0;
        for (int f = 0; f < land.f.size(); f++) {
            if (reads(f, w.belt[f]) == b) {
                below++;
                above += strength(f) < s ? 0 : 1;
            }
        }
        if (below == 0) {
            return part;
        }
        for (int d = 1; d <= below; d++) {
            if (above * d % below == 0) {
                return part == 0 ? above * d / below : d;
            }
        }
        throw new IllegalStateException();
    }

    private int words(int f, int g) {
        fighterIs(f);
        fighterIs(g);
        if (f == g) {
            throw new Refused(UNKNOWN);
        }
        int words = 0;
        for (int[] pair : new int[][] {{f, g}, {g, f}}) {
            int hears = reads(pair[1], w.belt[pair[1]]);
            while (hears >= strength(pair[0])) {
                if (hears == 0) {
                    return NONE;
                }
                hears = Math.max(0, hears - 10);
                words++;
            }
        }
        return words;
    }

    private int hire(int f, int what) {
        fighterIs(f);
        within(what, 0, 1);
        List<Integer> free = new ArrayList<>();
        for (int p = 0; p < land.people; p++) {
            free.add(p);
        }
        for (int g = 0; g <= f; g++) {
            int of = g;
            List<Integer> bids = new ArrayList<>(free);
            bids.sort((p, q) -> w.thinks[q][of] - w.thinks[p][of]);
            boolean hired = !bids.isEmpty() && w.thinks[bids.get(0)][of] > 0;
            if (g == f && !hired) {
                return NONE;
            }
            if (g == f) {
                return what == 0 ? bids.get(0) : bids.size() == 1 ? 0 : w.thinks[bids.get(1)][of];
            }
            if (hired) {
                free.remove(bids.get(0));
            }
        }
        throw new IllegalStateException();
    }

    private int saw(int p, int f, int what) {
        person(p);
        fighterIs(f);
        within(what, 0, 1);
        List<Integer> ways = new ArrayList<>();
        int done = set(w.done.get(f));
        for (int belt = 0; belt < 2; belt++) {
            for (int tasks = 0; tasks <= done; tasks++) {
                int thought = belt == 1 ? reads(f, w.belt[f]) : 0;
                boolean can = true;
                for (int t = 0; t < land.t.size(); t++) {
                    if (in(tasks, t)) {
                        can &= in(done, t);
                        thought = Math.min(99, thought + land.t.get(t)[3]);
                    }
                }
                if (can && thought == w.thinks[p][f]) {
                    ways.add(tasks);
                }
            }
        }
        if (what == 0) {
            return ways.size();
        }
        return ways.isEmpty() ? 0 : ways.stream().reduce((a, b) -> a & b).get();
    }

    private static int hides(int n, int q) {
        within(n, 1, 9);
        within(q, 0, 100);
        long odds = 1000000000L;
        while (n-- > 0) {
            odds = odds * (100 - q) / 100;
        }
        return (int) odds;
    }

    // ---- books, images

    private int note(int p, int f, int much) {
        person(p);
        fighterIs(f);
        within(much, 0, 99);
        if (book.size() == 15) {
            throw new Refused(FULL);
        }
        book.add(new int[] {p, f, much});
        return book.size();
    }

    private int tear() {
        int had = book.size();
        book.clear();
        return had;
    }

    private int judge() {
        for (int i = 0; i < book.size(); i++) {
            if (w.thinks[book.get(i)[0]][book.get(i)[1]] != book.get(i)[2]) {
                return i;
            }
        }
        return NONE;
    }

    private int seed(int v) {
        within(v, 0, Integer.MAX_VALUE);
        int was = (int) w.seed;
        w.seed = v;
        return was;
    }

    private int keep(int i) {
        known(i, 2);
        images.put(i, w.copy());
        return 1;
    }

    private int goBack(int i) {
        known(i, 2);
        if (!images.containsKey(i)) {
            throw new Refused(NOT);
        }
        w = images.get(i).copy();
        return 1;
    }
}
