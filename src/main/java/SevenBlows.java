/** Fighters, the belts they wear, the people who read them, and all that comes of what these think. */
public final class SevenBlows {
    public static final int NONE = -1, UNKNOWN = -1000000001, OUTSIDE = -1000000002, NOT = -1000000003, FULL = -1000000004;

    private static final int MOST_LETTERS = 250;
    private static final int MOST_PEOPLE = 6;
    private static final int MOST_FIGHTERS = 5;
    private static final int MOST_CHATS = 10;
    private static final int MOST_TASKS = 6;
    private static final int MOST_TRICKS = 4;
    private static final int MOST_ENTRIES = 15;
    private static final int MOST_FAME = 20;
    private static final int MOST = 99;
    private static final int MOST_ROUNDS = 20;
    private static final int LAST_FULL_DAY = 90000;
    private static final int BILLION = 1000000000;

    private static final int SILENT = 1;
    private static final int FAMED = 2;
    private static final int BORROWED = 3;
    private static final int RETIRED = 4;

    private static final int CANNOT_STAND = 1;
    private static final int BAD_NUMBER = 2;
    private static final int TOO_MANY = 3;
    private static final int TWICE = 4;

    private final TextReader reader;
    private Land realm;
    private Land draft;
    private final State now;
    private final State firstImage;
    private final State secondImage;
    private final Book book;
    private final Planner planner;
    private final BeltWriter beltWriter;
    private final int[] heard;

    public SevenBlows() {
        reader = new TextReader();
        realm = new Land();
        draft = new Land();
        now = new State();
        firstImage = new State();
        secondImage = new State();
        book = new Book();
        planner = new Planner();
        beltWriter = new BeltWriter();
        heard = new int[MOST_PEOPLE];
    }

    // ---- the land

    public int feed(int letter) {
        if (letter < 0 || letter > 255) {
            return OUTSIDE;
        }
        return reader.append(letter);
    }

    public int land() {
        int number = reader.parse(draft);
        if (number != 0) {
            return -10 - number;
        }
        Land old = realm;
        realm = draft;
        draft = old;
        now.begin(realm);
        firstImage.kept = false;
        secondImage.kept = false;
        book.entries = 0;
        return realm.people;
    }

    public int fault() {
        return reader.faultPlace;
    }

    public int told(int what) {
        switch (what) {
            case 0: return realm.people;
            case 1: return realm.fighters;
            case 2: return realm.chatPairs;
            case 3: return realm.tasks;
            case 4: return realm.tricks;
            case 5: return reader.length;
            case 6: return now.days;
            case 7: return allThoughts();
            case 8: return book.entries;
            default: return OUTSIDE;
        }
    }

    public int fighter(int f, int what) {
        if (!isFighter(f)) {
            return UNKNOWN;
        }
        switch (what) {
            case 0: return realm.kind[f];
            case 1: return realm.strength[f];
            case 2: return now.belts[f];
            case 3: return readsNow(f);
            case 4: return now.done[f];
            case 5: return now.used[f];
            case 6: return realm.worthOf(now.done[f]);
            default: return OUTSIDE;
        }
    }

    public int thinks(int p, int f) {
        if (!isPerson(p) || !isFighter(f)) {
            return UNKNOWN;
        }
        return now.thoughts[slot(p, f)];
    }

    public int chats(int p) {
        if (!isPerson(p)) {
            return UNKNOWN;
        }
        return realm.chatsWith[p];
    }

    public int task(int t, int what) {
        if (!isTask(t)) {
            return UNKNOWN;
        }
        switch (what) {
            case 0: return realm.guard[t];
            case 1: return realm.danger[t];
            case 2: return realm.worth[t];
            case 3: return realm.fame[t];
            case 4: return realm.tricksOf(t);
            default: return OUTSIDE;
        }
    }

    public int trick(int r, int what) {
        if (r < 0 || r >= realm.tricks) {
            return UNKNOWN;
        }
        switch (what) {
            case 0: return realm.trickTask[r];
            case 1: return realm.lowers[r];
            case 2: return realm.needs[r];
            default: return OUTSIDE;
        }
    }

    // ---- what is done

    public int read(int p, int f) {
        if (!isPerson(p) || !isFighter(f)) {
            return UNKNOWN;
        }
        return readBelt(p, f);
    }

    public int rumour(int f) {
        if (!isFighter(f)) {
            return UNKNOWN;
        }
        return spread(f);
    }

    public int inspect(int p, int f) {
        if (!isPerson(p) || !isFighter(f)) {
            return UNKNOWN;
        }
        return lookClosely(p, f);
    }

    public int belt(int f, int b) {
        if (!isFighter(f)) {
            return UNKNOWN;
        }
        if (b < 0 || b > MOST) {
            return OUTSIDE;
        }
        int old = now.belts[f];
        now.belts[f] = b;
        return old;
    }

    public int attempt(int f, int t, int tricks) {
        if (!isFighter(f) || !isTask(t) || (tricks & -(1 << realm.tricks)) != 0) {
            return UNKNOWN;
        }
        int free = realm.tricksOf(t) & ~now.used[f];
        if (has(now.done[f], t) || (tricks & ~free) != 0) {
            return NOT;
        }
        now.used[f] |= tricks;
        int atGuard = slot(realm.guard[t], f);
        if (!realm.passes(f, t, tricks, now.thoughts[atGuard])) {
            now.thoughts[atGuard] = realm.strength[f];
            return 0;
        }
        now.done[f] |= 1 << t;
        grow(f, realm.fame[t]);
        return 1;
    }

    public int drift(int n) {
        if (n < 1 || n > MOST) {
            return OUTSIDE;
        }
        if (realm.people == 0 || realm.fighters == 0) {
            return NOT;
        }
        if (now.days > LAST_FULL_DAY) {
            return FULL;
        }
        for (int i = 0; i < n; i++) {
            liveOneDay();
        }
        return now.days;
    }

    // ---- tried

    public int plan(int f, int i, int what) {
        if (!isFighter(f)) {
            return UNKNOWN;
        }
        if (what < 0 || what > 1) {
            return OUTSIDE;
        }
        planner.walk(realm, now, f);
        if (i == NONE) {
            return realm.worthOf(planner.passed);
        }
        if (i < 0 || i >= planner.lengthOfPlan(realm)) {
            return NONE;
        }
        return what == 0 ? planner.row[i] : planner.sets[i];
    }

    public int stops(int f) {
        if (!isFighter(f)) {
            return UNKNOWN;
        }
        planner.walk(realm, now, f);
        int passable = planner.passed | now.done[f];
        for (int t = 0; t < realm.tasks; t++) {
            if (!has(passable, t)) {
                return t;
            }
        }
        return NONE;
    }

    public int write(int f) {
        if (f != NONE && !isFighter(f)) {
            return UNKNOWN;
        }
        int rounds = beltWriter.settle(realm, now);
        if (rounds == NONE || f == NONE) {
            return rounds;
        }
        return beltWriter.belts[f];
    }

    public int tells(int b, int s, int part) {
        if (b < 0 || b > MOST || s < 0 || s > MOST || part < 0 || part > 1) {
            return OUTSIDE;
        }
        int wearers = 0;
        int strong = 0;
        for (int f = 0; f < realm.fighters; f++) {
            if (readsNow(f) == b) {
                wearers++;
                if (realm.strength[f] >= s) {
                    strong++;
                }
            }
        }
        if (strong == 0) {
            return part;
        }
        return (part == 0 ? strong : wearers) / commonDivisor(strong, wearers);
    }

    public int words(int f, int g) {
        if (!isFighter(f) || !isFighter(g) || f == g) {
            return UNKNOWN;
        }
        if (realm.strength[f] == 0 || realm.strength[g] == 0) {
            return NONE;
        }
        return wordsTo(f, readsNow(g)) + wordsTo(g, readsNow(f));
    }

    public int hire(int f, int what) {
        if (!isFighter(f)) {
            return UNKNOWN;
        }
        if (what < 0 || what > 1) {
            return OUTSIDE;
        }
        int busy = 0;
        for (int g = 0; g < f; g++) {
            int winner = topBidder(g, busy);
            if (winner != NONE) {
                busy |= 1 << winner;
            }
        }
        int who = topBidder(f, busy);
        if (who == NONE || what == 0) {
            return who;
        }
        int second = topBidder(f, busy | 1 << who);
        return second == NONE ? 0 : now.thoughts[slot(second, f)];
    }

    public int saw(int p, int f, int what) {
        if (!isPerson(p) || !isFighter(f)) {
            return UNKNOWN;
        }
        if (what < 0 || what > 1) {
            return OUTSIDE;
        }
        int thought = now.thoughts[slot(p, f)];
        int ways = 0;
        int sure = now.done[f];
        for (int set = 0; set < 1 << MOST_TASKS; set++) {
            int here = (set & ~now.done[f]) != 0 ? 0 : waysBy(set, readsNow(f), thought);
            ways += here;
            if (here > 0) {
                sure &= set;
            }
        }
        if (what == 0) {
            return ways;
        }
        return ways == 0 ? 0 : sure;
    }

    public int hides(int n, int q) {
        if (n < 1 || n > 9 || q < 0 || q > 100) {
            return OUTSIDE;
        }
        long odds = BILLION;
        for (int i = 0; i < n; i++) {
            odds = odds * (100 - q) / 100;
        }
        return (int) odds;
    }

    // ---- books, images

    public int note(int p, int f, int much) {
        if (!isPerson(p) || !isFighter(f)) {
            return UNKNOWN;
        }
        if (much < 0 || much > MOST) {
            return OUTSIDE;
        }
        return book.enter(slot(p, f), much);
    }

    public int tear() {
        int had = book.entries;
        book.entries = 0;
        return had;
    }

    public int judge() {
        return book.firstWrong(now);
    }

    public int seed(int v) {
        if (v < 0) {
            return OUTSIDE;
        }
        int old = now.drawSeed;
        now.drawSeed = v;
        return old;
    }

    public int keep(int i) {
        if (i < 0 || i > 1) {
            return UNKNOWN;
        }
        State image = i == 0 ? firstImage : secondImage;
        image.become(now);
        image.kept = true;
        return 1;
    }

    public int goBack(int i) {
        if (i < 0 || i > 1) {
            return UNKNOWN;
        }
        State image = i == 0 ? firstImage : secondImage;
        if (!image.kept) {
            return NOT;
        }
        now.become(image);
        return 1;
    }

    // ---- inside

    private static boolean has(int set, int k) {
        return (set >> k & 1) == 1;
    }

    private static int slot(int p, int f) {
        return p * MOST_FIGHTERS + f;
    }

    private boolean isPerson(int p) {
        return p >= 0 && p < realm.people;
    }

    private boolean isFighter(int f) {
        return f >= 0 && f < realm.fighters;
    }

    private boolean isTask(int t) {
        return t >= 0 && t < realm.tasks;
    }

    private int readsNow(int f) {
        return realm.readsAs(f, now.belts[f]);
    }

    private int allThoughts() {
        int sum = 0;
        for (int p = 0; p < realm.people; p++) {
            for (int f = 0; f < realm.fighters; f++) {
                sum += now.thoughts[slot(p, f)];
            }
        }
        return sum;
    }

    private int readBelt(int p, int f) {
        int at = slot(p, f);
        now.thoughts[at] = Math.max(now.thoughts[at], readsNow(f));
        return now.thoughts[at];
    }

    private int spread(int f) {
        for (int p = 0; p < realm.people; p++) {
            heard[p] = mostAround(p, f);
        }
        int risen = 0;
        for (int p = 0; p < realm.people; p++) {
            int at = slot(p, f);
            if (heard[p] > now.thoughts[at]) {
                now.thoughts[at] = heard[p];
                risen++;
            }
        }
        return risen;
    }

    private int mostAround(int p, int f) {
        int most = now.thoughts[slot(p, f)];
        for (int other = 0; other < realm.people; other++) {
            if (has(realm.chatsWith[p], other)) {
                most = Math.max(most, now.thoughts[slot(other, f)]);
            }
        }
        return most;
    }

    private int lookClosely(int p, int f) {
        now.thoughts[slot(p, f)] = realm.strength[f];
        if (realm.kind[f] == BORROWED) {
            now.belts[f] = 0;
        }
        return realm.strength[f];
    }

    private void grow(int f, int fame) {
        for (int p = 0; p < realm.people; p++) {
            int at = slot(p, f);
            now.thoughts[at] = Math.min(MOST, now.thoughts[at] + fame);
        }
    }

    private void liveOneDay() {
        int p = now.draw(realm.people);
        int f = now.draw(realm.fighters);
        int deed = now.draw(3);
        now.days++;
        if (deed == 0) {
            readBelt(p, f);
        } else if (deed == 1) {
            spread(f);
        } else {
            lookClosely(p, f);
        }
    }

    private static int commonDivisor(int a, int b) {
        for (int d = a; d > 1; d--) {
            if (a % d == 0 && b % d == 0) {
                return d;
            }
        }
        return 1;
    }

    private int wordsTo(int f, int hears) {
        int tooMuch = hears - realm.strength[f];
        return tooMuch < 0 ? 0 : tooMuch / 10 + 1;
    }

    /** The least of those who bid most; bids of 0 do not count, so the price of who is left alone with them is 0, too. */
    private int topBidder(int f, int busy) {
        int winner = NONE;
        int most = 0;
        for (int p = 0; p < realm.people; p++) {
            int bid = now.thoughts[slot(p, f)];
            if (!has(busy, p) && bid > most) {
                winner = p;
                most = bid;
            }
        }
        return winner;
    }

    /** A belt that reads 0 counts twice: who read it and who did not are two ways to the same thought. */
    private int waysBy(int set, int reads, int thought) {
        int fame = realm.fameOf(set);
        int unread = Math.min(MOST, fame) == thought ? 1 : 0;
        return unread + (Math.min(MOST, reads + fame) == thought ? 1 : 0);
    }

    /** What a text told; it changes by the next text alone. */
    private static final class Land {
        int people;
        int fighters;
        int chatPairs;
        int tasks;
        int tricks;
        int thoughtsTold;
        final int[] kind = new int[MOST_FIGHTERS];
        final int[] strength = new int[MOST_FIGHTERS];
        final int[] firstBelts = new int[MOST_FIGHTERS];
        final int[] chatsWith = new int[MOST_PEOPLE];
        final int[] guard = new int[MOST_TASKS];
        final int[] danger = new int[MOST_TASKS];
        final int[] worth = new int[MOST_TASKS];
        final int[] fame = new int[MOST_TASKS];
        final int[] trickTask = new int[MOST_TRICKS];
        final int[] lowers = new int[MOST_TRICKS];
        final int[] needs = new int[MOST_TRICKS];
        final int[] firstThoughts = new int[MOST_PEOPLE * MOST_FIGHTERS];

        Land() {
        }

        /** The other rows are written anew for all that is counted; these alone are added to or left untold. */
        void clear() {
            people = 0;
            fighters = 0;
            chatPairs = 0;
            tasks = 0;
            tricks = 0;
            thoughtsTold = 0;
            for (int p = 0; p < MOST_PEOPLE; p++) {
                chatsWith[p] = 0;
            }
            for (int i = 0; i < MOST_PEOPLE * MOST_FIGHTERS; i++) {
                firstThoughts[i] = 0;
            }
        }

        int readsAs(int f, int b) {
            if (kind[f] == SILENT) {
                return 0;
            }
            return kind[f] == FAMED ? Math.min(MOST, b + b / 2) : b;
        }

        int tricksOf(int t) {
            int set = 0;
            for (int r = 0; r < tricks; r++) {
                if (trickTask[r] == t) {
                    set |= 1 << r;
                }
            }
            return set;
        }

        int worthOf(int set) {
            return together(worth, set);
        }

        int fameOf(int set) {
            return together(fame, set);
        }

        private int together(int[] ofTasks, int set) {
            int sum = 0;
            for (int t = 0; t < tasks; t++) {
                if (has(set, t)) {
                    sum += ofTasks[t];
                }
            }
            return sum;
        }

        boolean passes(int f, int t, int set, int guardThinks) {
            if (kind[f] == RETIRED) {
                return false;
            }
            return guardThinks > danger[t] || strength[f] >= dangerLeft(t, set, guardThinks);
        }

        private int dangerLeft(int t, int set, int guardThinks) {
            int left = danger[t];
            for (int r = 0; r < tricks; r++) {
                if (has(set, r) && needs[r] <= guardThinks) {
                    left = Math.max(0, left - lowers[r]);
                }
            }
            return left;
        }
    }

    /** What changes by deeds, and what an image keeps of it. */
    private static final class State {
        final int[] belts = new int[MOST_FIGHTERS];
        final int[] done = new int[MOST_FIGHTERS];
        final int[] used = new int[MOST_FIGHTERS];
        final int[] thoughts = new int[MOST_PEOPLE * MOST_FIGHTERS];
        int days;
        int drawSeed;
        boolean kept;

        State() {
        }

        void begin(Land land) {
            for (int f = 0; f < MOST_FIGHTERS; f++) {
                belts[f] = land.firstBelts[f];
                done[f] = 0;
                used[f] = 0;
            }
            for (int i = 0; i < MOST_PEOPLE * MOST_FIGHTERS; i++) {
                thoughts[i] = land.firstThoughts[i];
            }
            days = 0;
        }

        void become(State other) {
            for (int f = 0; f < MOST_FIGHTERS; f++) {
                belts[f] = other.belts[f];
                done[f] = other.done[f];
                used[f] = other.used[f];
            }
            for (int i = 0; i < MOST_PEOPLE * MOST_FIGHTERS; i++) {
                thoughts[i] = other.thoughts[i];
            }
            days = other.days;
            drawSeed = other.drawSeed;
        }

        int draw(int n) {
            drawSeed = (int) (drawSeed * 1103515245L + 12345L & 2147483647L);
            return n < 1 ? 0 : drawSeed / 65536 % n;
        }
    }

    /** Takes the text letter by letter and tells a land from it, up to the first fault. */
    private static final class TextReader {
        final int[] letters = new int[MOST_LETTERS];
        int length;
        int place;
        int numberPlace;
        int faultNumber;
        int faultPlace = NONE;

        TextReader() {
        }

        int append(int letter) {
            if (length >= MOST_LETTERS) {
                return FULL;
            }
            letters[length] = letter;
            length++;
            return length;
        }

        /** Empties the text; the number of its fault, 0 without one. */
        int parse(Land land) {
            land.clear();
            place = 0;
            faultNumber = 0;
            faultPlace = NONE;
            skipBlanks();
            for (int i = 0; i < MOST_LETTERS && faultNumber == 0 && place < length; i++) {
                clause(land);
                skipBlanks();
            }
            length = 0;
            return faultNumber;
        }

        /** The first fault stays: what comes behind it is not read any more. */
        private void fail(int number, int at) {
            if (faultNumber == 0) {
                faultNumber = number;
                faultPlace = at;
            }
        }

        private void skipBlanks() {
            while (place < length && letters[place] == ' ') {
                place++;
            }
        }

        private boolean figureAhead() {
            return place < length && letters[place] >= '0' && letters[place] <= '9';
        }

        /** A number from least to most; 0 with a fault. */
        private int number(int least, int most) {
            skipBlanks();
            if (!figureAhead()) {
                fail(CANNOT_STAND, place);
            }
            if (faultNumber != 0) {
                return 0;
            }
            numberPlace = place;
            int value = 0;
            for (int i = 0; i < MOST_LETTERS && figureAhead(); i++) {
                if (i < 3) {
                    value = value * 10 + letters[place] - '0';
                }
                place++;
            }
            if (place - numberPlace > 3 || value < least || value > most) {
                fail(BAD_NUMBER, numberPlace);
                return 0;
            }
            return value;
        }

        private void endOfClause() {
            skipBlanks();
            if (place < length && letters[place] == ';') {
                place++;
            } else {
                fail(CANNOT_STAND, place);
            }
        }

        private void clause(Land land) {
            int word = letters[place];
            if (land.people == 0 && word != 'p') {
                fail(CANNOT_STAND, place);
                return;
            }
            switch (word) {
                case 'p': peopleClause(land); break;
                case 'f': fighterClause(land); break;
                case 'c': chatClause(land); break;
                case 't': taskClause(land); break;
                case 'r': trickClause(land); break;
                case 'e': thoughtClause(land); break;
                default: fail(CANNOT_STAND, place); break;
            }
        }

        private void peopleClause(Land land) {
            if (land.people > 0) {
                fail(TOO_MANY, place);
                return;
            }
            place++;
            int n = number(1, MOST_PEOPLE);
            endOfClause();
            land.people = n;
        }

        private void fighterClause(Land land) {
            int f = land.fighters;
            if (f >= MOST_FIGHTERS) {
                fail(TOO_MANY, place);
                return;
            }
            place++;
            land.kind[f] = number(0, RETIRED);
            land.strength[f] = number(0, MOST);
            land.firstBelts[f] = number(0, MOST);
            endOfClause();
            land.fighters = f + 1;
        }

        private void chatClause(Land land) {
            if (land.chatPairs >= MOST_CHATS) {
                fail(TOO_MANY, place);
                return;
            }
            place++;
            int a = number(0, land.people - 1);
            int b = number(0, land.people - 1);
            if (a == b || has(land.chatsWith[a], b)) {
                fail(TWICE, numberPlace);
            }
            endOfClause();
            land.chatsWith[a] |= 1 << b;
            land.chatsWith[b] |= 1 << a;
            land.chatPairs++;
        }

        private void taskClause(Land land) {
            int t = land.tasks;
            if (t >= MOST_TASKS) {
                fail(TOO_MANY, place);
                return;
            }
            place++;
            land.guard[t] = number(0, land.people - 1);
            land.danger[t] = number(0, MOST);
            land.worth[t] = number(0, MOST);
            land.fame[t] = number(0, MOST_FAME);
            endOfClause();
            land.tasks = t + 1;
        }

        private void trickClause(Land land) {
            int r = land.tricks;
            if (r >= MOST_TRICKS) {
                fail(TOO_MANY, place);
                return;
            }
            place++;
            land.trickTask[r] = number(0, land.tasks - 1);
            land.lowers[r] = number(1, MOST);
            land.needs[r] = number(0, MOST);
            endOfClause();
            land.tricks = r + 1;
        }

        private void thoughtClause(Land land) {
            place++;
            int p = number(0, land.people - 1);
            int f = number(0, land.fighters - 1);
            int at = slot(p, f);
            if (has(land.thoughtsTold, at)) {
                fail(TWICE, numberPlace);
            }
            land.firstThoughts[at] = number(0, MOST);
            land.thoughtsTold |= 1 << at;
            endOfClause();
        }
    }

    /** What some people are said to think, in the order in which it was entered. */
    private static final class Book {
        final int[] slots = new int[MOST_ENTRIES];
        final int[] amounts = new int[MOST_ENTRIES];
        int entries;

        Book() {
        }

        int enter(int at, int much) {
            if (entries >= MOST_ENTRIES) {
                return FULL;
            }
            slots[entries] = at;
            amounts[entries] = much;
            entries++;
            return entries;
        }

        int firstWrong(State state) {
            for (int i = 0; i < entries; i++) {
                if (state.thoughts[slots[i]] != amounts[i]) {
                    return i;
                }
            }
            return NONE;
        }
    }

    /**
     * Passes the least task that can be passed, again and again. Fame only adds to what guards think and a trick
     * serves one task alone, so no task that is passed ever closes another one: the walk passes all that any row
     * passes, in the first order.
     */
    private static final class Planner {
        final int[] row = new int[MOST_TASKS];
        final int[] sets = new int[MOST_TASKS];
        int steps;
        int passed;

        Planner() {
        }

        void walk(Land land, State state, int f) {
            steps = 0;
            passed = 0;
            for (int i = 0; i < MOST_TASKS && steps == i; i++) {
                step(land, state, f);
            }
        }

        /** The first row of the greatest worth ends where what follows is worth nothing. */
        int lengthOfPlan(Land land) {
            for (int i = steps; i > 0; i--) {
                if (land.worth[row[i - 1]] > 0) {
                    return i;
                }
            }
            return 0;
        }

        private void step(Land land, State state, int f) {
            int gone = passed | state.done[f];
            int fame = land.fameOf(passed);
            for (int t = 0; t < land.tasks; t++) {
                if (has(gone, t)) {
                    continue;
                }
                int guardThinks = Math.min(MOST, state.thoughts[slot(land.guard[t], f)] + fame);
                int set = leastSet(land, f, t, land.tricksOf(t) & ~state.used[f], guardThinks);
                if (set != NONE) {
                    row[steps] = t;
                    sets[steps] = set;
                    steps++;
                    passed |= 1 << t;
                    return;
                }
            }
        }

        private static int leastSet(Land land, int f, int t, int free, int guardThinks) {
            for (int set = 0; set <= free; set++) {
                if ((set & ~free) == 0 && land.passes(f, t, set, guardThinks)) {
                    return set;
                }
            }
            return NONE;
        }
    }

    /** Lets all fighters write what brings them most, until nobody writes anything else. */
    private static final class BeltWriter {
        final int[] belts = new int[MOST_FIGHTERS];
        final int[] rivals = new int[MOST_PEOPLE];

        BeltWriter() {
        }

        /** The rounds that changed something; NONE, if the last one still did. */
        int settle(Land land, State state) {
            for (int f = 0; f < MOST_FIGHTERS; f++) {
                belts[f] = state.belts[f];
            }
            for (int rounds = 0; rounds < MOST_ROUNDS; rounds++) {
                if (!roundChanges(land, state)) {
                    return rounds;
                }
            }
            return NONE;
        }

        private boolean roundChanges(Land land, State state) {
            boolean changed = false;
            for (int f = 0; f < land.fighters; f++) {
                int b = bestBelt(land, state, f);
                changed |= b != belts[f];
                belts[f] = b;
            }
            return changed;
        }

        private int bestBelt(Land land, State state, int f) {
            for (int p = 0; p < land.people; p++) {
                rivals[p] = strongestRival(land, state, p, f);
            }
            int best = 0;
            int most = gain(land, state, f, 0);
            for (int b = 10; b <= 90; b += 10) {
                int here = gain(land, state, f, b);
                if (here > most) {
                    most = here;
                    best = b;
                }
            }
            return best;
        }

        /** Below every thought, if there is no other fighter. */
        private int strongestRival(Land land, State state, int p, int f) {
            int most = NONE;
            for (int g = 0; g < land.fighters; g++) {
                if (g != f) {
                    int read = Math.max(state.thoughts[slot(p, g)], land.readsAs(g, belts[g]));
                    most = Math.max(most, read);
                }
            }
            return most;
        }

        private int gain(Land land, State state, int f, int b) {
            int reads = land.readsAs(f, b);
            int followers = 0;
            for (int p = 0; p < land.people; p++) {
                if (Math.max(state.thoughts[slot(p, f)], reads) > rivals[p]) {
                    followers++;
                }
            }
            return 10 * followers - 3 * (Math.max(0, reads - land.strength[f]) / 10);
        }
    }
}
