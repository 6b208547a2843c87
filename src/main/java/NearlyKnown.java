/**
 * Introduced by mistake: who was presented to somebody as what he is not must go on as that
 * whenever both are in the room. The promises that this class keeps stand in ../shared/DOC.md.
 */
public final class NearlyKnown {
    public static final int NONE = -1, UNKNOWN = -2, OUTSIDE = -3, NOT = -4, FULL = -5;

    private static final int MOST_PEOPLE = 6;
    private static final int MOST_ROLE = 7;
    private static final int MOST_LETTERS = 160;
    private static final int MOST_CLAUSES = 14;
    private static final int MOST_UNDONE = 8;
    private static final int MOST_KEPT = 2;
    private static final int MOST_SEEN = 6;
    private static final int MOST_FORETOLD = 20;
    private static final int LAST_EVENING = 999;
    private static final int NO_ROLE = 0;
    private static final int CERTAIN = 10;

    private static final int PLAIN = 0, SMOOTH = 1, SHY = 2, HOST = 3;
    /** How many ROLES each KIND BEARS; with 7 ROLES in all, 7 is any number. */
    private static final int[] BEARS = {1, 2, 1, 7};
    /** What stands over PERSON, PLAIN, SMOOTH, SHY, HOST in the tree of as(). */
    private static final int[] OVER = {-1, 0, 1, 1, 0};

    private final Text text = new Text();
    /** All as the texts alone told it, at EVENING 0: a new text starts from here, whatever was done since. */
    private final Scene told = new Scene();
    private final Scene now = new Scene();
    /** What is foretold is tried out here, so that nothing changes. */
    private final Scene trial = new Scene();
    private final Past past = new Past();
    private final Scene[] kept = new Scene[MOST_KEPT];
    private final boolean[] isKept = new boolean[MOST_KEPT];
    private final Sightings sightings = new Sightings();
    private final RoomPlan plan = new RoomPlan();

    public NearlyKnown() {
        for (int k = 0; k < MOST_KEPT; k++) {
            kept[k] = new Scene();
        }
    }

    // ---- what is told

    public int write(int letter) {
        if (letter < 0 || letter > 255) {
            return OUTSIDE;
        }
        return text.append(letter) ? text.length : FULL;
    }

    public int erase() {
        int had = text.length;
        text.length = 0;
        return had;
    }

    public int fault() {
        trial.copyFrom(told);
        return text.readInto(trial);
    }

    public int season() {
        trial.copyFrom(told);
        if (text.readInto(trial) != NONE) {
            return NOT;
        }
        told.copyFrom(trial);
        now.copyFrom(trial);
        past.size = 0;
        sightings.size = 0;
        for (int k = 0; k < MOST_KEPT; k++) {
            isKept[k] = false;
        }
        text.length = 0;
        return text.clauses;
    }

    public int person(int person, int what) {
        if (!now.has(person)) {
            return UNKNOWN;
        }
        switch (what) {
            case 0:
                return now.kindOf(person);
            case 1:
                return isIn(now.room, person) ? 1 : 0;
            case 2:
                return now.mustBe(now.room, person);
            case 3:
                return now.mustBeTwo(now.room, person) ? 1 : 0;
            case 4:
                return now.knownTo(person);
            default:
                return OUTSIDE;
        }
    }

    public int to(int person, int other) {
        return now.hasPair(person, other) ? roleOrNone(now.roleTo(person, other)) : UNKNOWN;
    }

    public int as(int person, int kind) {
        if (!now.has(person)) {
            return UNKNOWN;
        }
        if (kind < 0 || kind >= OVER.length) {
            return OUTSIDE;
        }
        return isUnder(now.kindOf(person) + 1, kind) ? now.bearsOf(person) : NOT;
    }

    // ---- what is done

    public int comes(int person, int on) {
        if (!now.has(person)) {
            return UNKNOWN;
        }
        if (on != 0 && on != 1) {
            return OUTSIDE;
        }
        if (isIn(now.room, person) == (on == 1)) {
            return NOT;
        }
        past.remember(now);
        now.room ^= 1 << person;
        return now.room;
    }

    public int introduce(int person, int other, int role) {
        if (!now.hasPair(person, other)) {
            return UNKNOWN;
        }
        if (!isRole(role)) {
            return OUTSIDE;
        }
        int before = now.roleTo(person, other);
        past.remember(now);
        now.setRole(person, other, role);
        return roleOrNone(before);
    }

    public int contradict(int person, int other) {
        if (!now.hasPair(person, other)) {
            return UNKNOWN;
        }
        int before = now.roleTo(person, other);
        if (before == NO_ROLE) {
            return NOT;
        }
        past.remember(now);
        now.setRole(person, other, NO_ROLE);
        return before;
    }

    public int evening() {
        if (now.evening >= LAST_EVENING) {
            return FULL;
        }
        past.remember(now);
        return now.passEvening();
    }

    public int undo() {
        return past.returnTo(now) ? past.size : NOT;
    }

    public int keep(int k) {
        if (k < 0 || k >= MOST_KEPT || kept[k] == null) {
            return UNKNOWN;
        }
        kept[k].copyFrom(now);
        isKept[k] = true;
        return now.evening;
    }

    public int back(int k) {
        if (k < 0 || k >= MOST_KEPT || kept[k] == null) {
            return UNKNOWN;
        }
        if (!isKept[k]) {
            return NOT;
        }
        now.copyFrom(kept[k]);
        past.size = 0;
        return now.evening;
    }

    // ---- foretold

    public int clash(int company) {
        return now.hasAll(company) ? now.clashOf(company) : UNKNOWN;
    }

    public int rooms(int company, int person) {
        if (!now.hasAll(company) || (person != NONE && !now.has(person))) {
            return UNKNOWN;
        }
        int fewest = plan.divide(now, company);
        return person == NONE ? fewest : plan.roomOf(person);
    }

    public int largest(int company) {
        if (!now.hasAll(company)) {
            return UNKNOWN;
        }
        int best = 0;
        for (int part = 1; part < 1 << MOST_PEOPLE; part++) {
            if (isPart(part, company) && Integer.bitCount(part) > Integer.bitCount(best)
                    && now.clashOf(part) == 0) {
                best = part;
            }
        }
        return best;
    }

    public int smallest(int company) {
        if (!now.hasAll(company)) {
            return UNKNOWN;
        }
        int best = NONE;
        for (int part = 1; part < 1 << MOST_PEOPLE; part++) {
            if (isPart(part, company) && now.clashOf(part) != 0
                    && (best == NONE || Integer.bitCount(part) < Integer.bitCount(best))) {
                best = part;
            }
        }
        return best;
    }

    public int may(int person, int other) {
        if (!now.hasPair(person, other)) {
            return UNKNOWN;
        }
        trial.copyFrom(now);
        int company = now.room | 1 << person | 1 << other;
        int bits = 0;
        for (int role = 1; role <= MOST_ROLE; role++) {
            trial.setRole(person, other, role);
            if (trial.clashOf(company) == 0) {
                bits |= 1 << role;
            }
        }
        return bits;
    }

    public int learn(int person, int role, int n) {
        if (!now.has(person)) {
            return UNKNOWN;
        }
        if (!isRole(role) || n < 0 || n > MOST_FORETOLD) {
            return OUTSIDE;
        }
        foretell(n);
        int bits = 0;
        for (int other = 0; other < trial.people; other++) {
            if (trial.roleTo(person, other) == role) {
                bits |= 1 << other;
            }
        }
        return bits;
    }

    public int stays(int n) {
        if (n < 0 || n > MOST_FORETOLD) {
            return OUTSIDE;
        }
        foretell(n);
        return trial.room;
    }

    // ---- what was seen

    public int seen(int company, int person, int role) {
        if (!now.hasAll(company) || !now.has(person) || !isIn(company, person)) {
            return UNKNOWN;
        }
        if (role != NO_ROLE && !isRole(role)) {
            return OUTSIDE;
        }
        return sightings.note(company, person, role) ? sightings.size : FULL;
    }

    public int forget() {
        int had = sightings.size;
        sightings.size = 0;
        return had;
    }

    public int was(int person, int other) {
        if (!now.hasPair(person, other)) {
            return UNKNOWN;
        }
        trial.copyFrom(now);
        int bits = 0;
        for (int role = NO_ROLE; role <= MOST_ROLE; role++) {
            trial.setRole(person, other, role);
            if (sightings.fit(trial)) {
                bits |= 1 << role;
            }
        }
        return bits;
    }

    public int chance(int company, int q, int part) {
        if (!now.hasAll(company)) {
            return UNKNOWN;
        }
        if (q < 0 || q > CERTAIN || part < 0 || part > 1) {
            return OUTSIDE;
        }
        int above = weightOfPeace(company, q);
        int below = power(CERTAIN, Integer.bitCount(company));
        int shared = Math.max(1, commonDivisor(above, below));
        return (part == 0 ? above : below) / shared;
    }

    public int count(int what) {
        switch (what) {
            case 0:
                return now.people;
            case 1:
                return now.evening;
            case 2:
                return now.room;
            case 3:
                return now.clashOf(now.room);
            case 4:
                return now.introductions();
            case 5:
                return sightings.size;
            case 6:
                return past.size;
            case 7:
                return text.length;
            default:
                return OUTSIDE;
        }
    }

    // ---- what the calls share

    private void foretell(int evenings) {
        trial.copyFrom(now);
        for (int passed = 0; passed < evenings; passed++) {
            trial.passEvening();
        }
    }

    /** How many of the 10^n equal cases have a company in which nobody MUST BE TWO. */
    private int weightOfPeace(int company, int q) {
        int size = Integer.bitCount(company);
        int weight = 0;
        for (int part = 0; part < 1 << MOST_PEOPLE; part++) {
            if (isPart(part, company) && now.clashOf(part) == 0) {
                int there = Integer.bitCount(part);
                weight += power(q, there) * power(CERTAIN - q, size - there);
            }
        }
        return weight;
    }

    private static int power(int base, int times) {
        int product = 1;
        for (int i = 0; i < times; i++) {
            product *= base;
        }
        return product;
    }

    private static int commonDivisor(int a, int b) {
        int greater = a;
        int lesser = b;
        // Euclid's steps for numbers below 2^31 are fewer than 64.
        for (int step = 0; step < 64 && lesser != 0; step++) {
            int rest = greater % lesser;
            greater = lesser;
            lesser = rest;
        }
        return greater;
    }

    private static boolean isRole(int role) {
        return role >= 1 && role <= MOST_ROLE;
    }

    private static int roleOrNone(int role) {
        return role == NO_ROLE ? NONE : role;
    }

    private static boolean isIn(int set, int person) {
        return (set >> person & 1) == 1;
    }

    private static boolean isPart(int part, int set) {
        return (part & ~set) == 0;
    }

    /** If the one kind (numbered as in as()) is the other one, or under it. */
    private static boolean isUnder(int kind, int upper) {
        int at = kind;
        for (int step = 0; step < OVER.length && at >= 0 && at < OVER.length; step++) {
            if (at == upper) {
                return true;
            }
            at = OVER[at];
        }
        return false;
    }

    /** PEOPLE, what each is to each other one, who is in THE ROOM, which EVENING it is. */
    private static final class Scene {
        private final int[] kinds = new int[MOST_PEOPLE];
        private final int[] roles = new int[MOST_PEOPLE * MOST_PEOPLE];
        private int people;
        private int room;
        private int evening;

        private void copyFrom(Scene other) {
            System.arraycopy(other.kinds, 0, kinds, 0, MOST_PEOPLE);
            System.arraycopy(other.roles, 0, roles, 0, MOST_PEOPLE * MOST_PEOPLE);
            people = other.people;
            room = other.room;
            evening = other.evening;
        }

        private void clear() {
            for (int i = 0; i < roles.length; i++) {
                roles[i] = NO_ROLE;
            }
            people = 0;
            room = 0;
        }

        private boolean addPerson(int kind) {
            if (people < 0 || people >= MOST_PEOPLE) {
                return false;
            }
            kinds[people] = kind;
            people++;
            return true;
        }

        private boolean has(int person) {
            return person >= 0 && person < people;
        }

        private boolean hasPair(int person, int other) {
            return has(person) && has(other) && person != other;
        }

        private boolean hasAll(int company) {
            return company >= 0 && company < 1 << people;
        }

        private int kindOf(int person) {
            return person >= 0 && person < MOST_PEOPLE ? kinds[person] : NONE;
        }

        private int bearsOf(int person) {
            int kind = kindOf(person);
            return kind >= 0 && kind < BEARS.length ? BEARS[kind] : 0;
        }

        private int roleTo(int person, int other) {
            int at = person * MOST_PEOPLE + other;
            return at >= 0 && at < roles.length ? roles[at] : NO_ROLE;
        }

        private void setRole(int person, int other, int role) {
            if (hasPair(person, other)) {
                roles[person * MOST_PEOPLE + other] = role;
            }
        }

        private int knownTo(int person) {
            int others = 0;
            for (int other = 0; other < people; other++) {
                if (roleTo(person, other) != NO_ROLE) {
                    others++;
                }
            }
            return others;
        }

        private int introductions() {
            int all = 0;
            for (int person = 0; person < people; person++) {
                all += knownTo(person);
            }
            return all;
        }

        private int mustBe(int company, int person) {
            if (!isIn(company, person)) {
                return 0;
            }
            int bits = 0;
            for (int other = 0; other < people; other++) {
                int role = roleTo(person, other);
                if (isIn(company, other) && role != NO_ROLE) {
                    bits |= 1 << role;
                }
            }
            return bits;
        }

        private boolean mustBeTwo(int company, int person) {
            return Integer.bitCount(mustBe(company, person)) > bearsOf(person);
        }

        private int clashOf(int company) {
            int bits = 0;
            for (int person = 0; person < people; person++) {
                if (mustBeTwo(company, person)) {
                    bits |= 1 << person;
                }
            }
            return bits;
        }

        /** AN EVENING: who leaves. */
        private int passEvening() {
            int company = room;
            int leaving = 0;
            // What one MUST BE hangs on his own row of roles alone, so no one's learning
            // can be felt by another one of the same evening.
            for (int person = 0; person < people; person++) {
                if (!mustBeTwo(company, person)) {
                    spread(company, person);
                } else if (kindOf(person) == SHY) {
                    leaving |= 1 << person;
                }
            }
            room = company & ~leaving;
            evening++;
            return leaving;
        }

        /** Who MUST BE just one ROLE is that to all of the company to whom he was none. */
        private void spread(int company, int person) {
            int role = onlyRole(mustBe(company, person));
            if (role == NO_ROLE) {
                return;
            }
            for (int other = 0; other < people; other++) {
                if (isIn(company, other) && roleTo(person, other) == NO_ROLE) {
                    setRole(person, other, role);
                }
            }
        }

        private static int onlyRole(int bits) {
            for (int role = 1; role <= MOST_ROLE; role++) {
                if (bits == 1 << role) {
                    return role;
                }
            }
            return NO_ROLE;
        }
    }

    /** THE TEXT, and its reading token by token. */
    private static final class Text {
        private static final int LETTERS = 0, DIGITS = 1, OTHER = 2, END = 3;

        private final int[] letters = new int[MOST_LETTERS];
        private int length;
        private int clauses;
        /** The TOKEN at hand begins at start and stops ahead of stop; at the end start is the length. */
        private int start;
        private int stop;

        private boolean append(int letter) {
            if (length < 0 || length >= MOST_LETTERS) {
                return false;
            }
            letters[length] = letter;
            length++;
            return true;
        }

        /** Does the clauses upon the draft up to the first fault: its place, or NONE. */
        private int readInto(Scene draft) {
            clauses = 0;
            stop = 0;
            for (int turn = 0; turn < MOST_CLAUSES; turn++) {
                toNextToken();
                if (!readClause(draft)) {
                    return start;
                }
                clauses++;
                if (start >= length) {
                    return NONE;
                }
                if (letterAt(start) != ';') {
                    return start;
                }
            }
            // The sign ; stands between clauses, so behind the last that may be it can not stand.
            return start;
        }

        private boolean readClause(Scene draft) {
            if (isWord("as")) {
                return readIntroduction(draft);
            }
            if (isWord("room")) {
                return readRoom(draft);
            }
            if (isWord("season")) {
                draft.clear();
            } else {
                int kind = kindByWord();
                if (kind == NONE || !draft.addPerson(kind)) {
                    return false;
                }
            }
            toNextToken();
            return true;
        }

        private boolean readIntroduction(Scene draft) {
            toNextToken();
            int person = number();
            if (!draft.has(person)) {
                return false;
            }
            toNextToken();
            int other = number();
            if (!draft.hasPair(person, other)) {
                return false;
            }
            toNextToken();
            int role = number();
            if (!isRole(role)) {
                return false;
            }
            draft.setRole(person, other, role);
            toNextToken();
            return true;
        }

        private boolean readRoom(Scene draft) {
            toNextToken();
            int company = number();
            if (!draft.hasAll(company)) {
                return false;
            }
            draft.room = company;
            toNextToken();
            return true;
        }

        private int kindByWord() {
            if (isWord("plain")) {
                return PLAIN;
            }
            if (isWord("smooth")) {
                return SMOOTH;
            }
            if (isWord("shy")) {
                return SHY;
            }
            return isWord("host") ? HOST : NONE;
        }

        private void toNextToken() {
            int at = stop;
            while (at < length && letterAt(at) == ' ') {
                at++;
            }
            start = at;
            int sort = sortAt(at);
            if (at < length) {
                at++;
            }
            while (at < length && sort != OTHER && sortAt(at) == sort) {
                at++;
            }
            stop = at;
        }

        private int letterAt(int at) {
            return at >= 0 && at < length && at < MOST_LETTERS ? letters[at] : NONE;
        }

        private int sortAt(int at) {
            int letter = letterAt(at);
            if (letter == NONE) {
                return END;
            }
            if (letter >= 'a' && letter <= 'z') {
                return LETTERS;
            }
            return letter >= '0' && letter <= '9' ? DIGITS : OTHER;
        }

        private boolean isWord(String word) {
            if (stop - start != word.length()) {
                return false;
            }
            for (int i = 0; i < word.length(); i++) {
                if (letterAt(start + i) != word.charAt(i)) {
                    return false;
                }
            }
            return true;
        }

        /** The TOKEN as a number of 1 or 2 digits, or NONE. */
        private int number() {
            if (sortAt(start) != DIGITS || stop - start > 2) {
                return NONE;
            }
            int value = 0;
            for (int at = start; at < stop; at++) {
                value = value * 10 + letterAt(at) - '0';
            }
            return value;
        }
    }

    /** How all was ahead of the latest things done: a ring, in which a new one takes the oldest's place. */
    private static final class Past {
        private final Scene[] scenes = new Scene[MOST_UNDONE];
        private int next;
        private int size;

        private Past() {
            for (int i = 0; i < MOST_UNDONE; i++) {
                scenes[i] = new Scene();
            }
        }

        private void remember(Scene scene) {
            if (next < 0 || next >= MOST_UNDONE || scenes[next] == null) {
                return;
            }
            scenes[next].copyFrom(scene);
            next = (next + 1) % MOST_UNDONE;
            size = Math.min(size + 1, MOST_UNDONE);
        }

        private boolean returnTo(Scene scene) {
            int latest = (next + MOST_UNDONE - 1) % MOST_UNDONE;
            if (size <= 0 || latest < 0 || scenes[latest] == null) {
                return false;
            }
            scene.copyFrom(scenes[latest]);
            next = latest;
            size--;
            return true;
        }
    }

    /** What is SEEN. */
    private static final class Sightings {
        private final int[] companies = new int[MOST_SEEN];
        private final int[] persons = new int[MOST_SEEN];
        private final int[] roles = new int[MOST_SEEN];
        private int size;

        private boolean note(int company, int person, int role) {
            if (size < 0 || size >= MOST_SEEN) {
                return false;
            }
            companies[size] = company;
            persons[size] = person;
            roles[size] = role;
            size++;
            return true;
        }

        private boolean fit(Scene scene) {
            for (int i = 0; i < size && i < MOST_SEEN; i++) {
                int bits = scene.mustBe(companies[i], persons[i]);
                boolean so = roles[i] == NO_ROLE ? Integer.bitCount(bits) > 1 : bits == 1 << roles[i];
                if (!so) {
                    return false;
                }
            }
            return true;
        }
    }

    /** ROOMS for a company. */
    private static final class RoomPlan {
        private final int[] companies = new int[MOST_PEOPLE];

        /** Puts the company into the fewest rooms, by the first way: how many they are. */
        private int divide(Scene scene, int company) {
            for (int most = 0; most <= MOST_PEOPLE; most++) {
                for (int i = 0; i < MOST_PEOPLE; i++) {
                    companies[i] = 0;
                }
                if (place(scene, company, 0, 0, most)) {
                    return most;
                }
            }
            // Not reached: each in a room of his own is always a way.
            return MOST_PEOPLE;
        }

        /** Places those from person on, with so many rooms used, so many allowed. */
        private boolean place(Scene scene, int company, int person, int used, int most) {
            if (person >= MOST_PEOPLE) {
                return true;
            }
            if (!isIn(company, person)) {
                return place(scene, company, person + 1, used, most);
            }
            int alone = 1 << person;
            for (int room = 0; room <= used && room < most && room < MOST_PEOPLE; room++) {
                companies[room] |= alone;
                // Who MUST BE TWO among few must be among more, so such a room is given up at once.
                if (scene.clashOf(companies[room]) == 0
                        && place(scene, company, person + 1, Math.max(used, room + 1), most)) {
                    return true;
                }
                companies[room] &= ~alone;
            }
            return false;
        }

        private int roomOf(int person) {
            for (int room = 0; room < MOST_PEOPLE; room++) {
                if (isIn(companies[room], person)) {
                    return room;
                }
            }
            return NONE;
        }
    }
}
