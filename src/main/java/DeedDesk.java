// Who could have done it, by what was found: ../shared/DOC.md says what each call answers, by numbered promises.
// No call makes an object: all rows are made with the object and used again.
public final class DeedDesk {
    public static final int BAD = -1, NOT = -2, FULL = -3, NONE = -4, NULL = -11, CAST = -12, INDEX = -13, SIZE = -14;

    private static final int PLACES = 8, SETS_OF_PLACES = 256, EVERYWHERE = 255;
    private static final int MOST_DOORS = 12, TICKS = 10, THINGS = 3;
    private static final int FEWEST_PEOPLE = 2, MOST_PEOPLE = 6, USUAL_PEOPLE = 4, NOBODY = -1;
    private static final int WAS = 0, WAS_NOT = 1, STILL = 2, GONE = 3, NOT_BY = 4;
    private static final int I_WAS = 5, I_WAS_NOT = 6, I_SAW = 7, KINDS = 8;
    private static final int MOST_FINDS = 20, MOST_SEARCHED = 12, MOST_LAID = 12;
    private static final int ROW = 5, IS_FOUND = 5;
    private static final int SHEETS = 2, LANES = 2, BYTES = 0, MOST_ITEMS = 60, EMPTY = -1;

    private final Scene now = new Scene();
    private final Ways ways = new Ways();
    private final Maker maker = new Maker();
    private final Sheet[] sheets = new Sheet[SHEETS];

    public DeedDesk() {
        for (int i = 0; i < SHEETS; i++) {
            sheets[i] = new Sheet();
        }
    }

    // ---- 1 the house

    public int people(int n) {
        if (n < FEWEST_PEOPLE || n > MOST_PEOPLE) {
            return BAD;
        }
        if (now.victim >= n || now.notes.nameOneFrom(n)) {
            return NOT;
        }
        int was = now.people;
        now.people = n;
        return was;
    }

    public int door(int a, int b) {
        if (!isPlace(a) || !isPlace(b) || a == b) {
            return BAD;
        }
        if (now.house.joined(a, b)) {
            return NOT;
        }
        if (now.house.doors >= MOST_DOORS) {
            return FULL;
        }
        now.house.join(a, b);
        return now.house.doors;
    }

    public int lies(int thing, int place) {
        if (!isThing(thing) || !isPlace(place)) {
            return BAD;
        }
        int was = now.lying[thing];
        now.lying[thing] = place;
        return was;
    }

    public int deed(int place, int tick, int victim) {
        if (!isPlace(place) || !isTick(tick) || victim != NOBODY && !now.isPerson(victim)) {
            return BAD;
        }
        now.place = place;
        now.tick = tick;
        now.victim = victim;
        return 1;
    }

    public int told(int what) {
        switch (what) {
            case 0:
                return now.place;
            case 1:
                return now.tick;
            case 2:
                return now.victim == NOBODY ? -2 : now.victim;
            case 3:
                return now.people;
            case 4:
                return now.house.doors;
            default:
                return BAD;
        }
    }

    // ---- 2 finds

    public int find(int kind, int a, int b, int c, int d) {
        if (!now.isFind(kind, a, b, c, d)) {
            return BAD;
        }
        if (now.notes.count >= MOST_FINDS) {
            return FULL;
        }
        now.notes.add(kind, a, b, c, d);
        return now.notes.count - 1;
    }

    public int finds(int sheet, int lane, int i, int n) {
        if (!isSheet(sheet) || !isLane(lane) || n < 0 || n > MOST_LAID) {
            return BAD;
        }
        Sheet row = sheets[sheet];
        int taken = row.takenAs(lane);
        if (taken < 0) {
            return taken;
        }
        if (i < 0 || i > row.length - n * ROW) {
            return INDEX;
        }
        if (!areFinds(row.items, i, n)) {
            return NOT;
        }
        if (now.notes.count + n > MOST_FINDS) {
            return FULL;
        }
        layFinds(row.items, i, n);
        return now.notes.count;
    }

    public int found(int find, boolean is) {
        if (!now.notes.holds(find)) {
            return BAD;
        }
        int was = now.notes.isFound(find) ? 1 : 0;
        now.notes.setFound(find, is);
        return was;
    }

    public int about(int find, int what) {
        if (!now.notes.holds(find) || what < 0 || what > IS_FOUND) {
            return BAD;
        }
        if (what == IS_FOUND) {
            return now.notes.isFound(find) ? 1 : 0;
        }
        return now.notes.rows[find * ROW + what];
    }

    public int clear() {
        int had = now.notes.count;
        now.notes.forget();
        return had;
    }

    public int denied(int find) {
        if (!now.notes.holds(find)) {
            return BAD;
        }
        if (now.notes.kind(find) < I_WAS) {
            return CAST;
        }
        return ways.deny(now, find) ? 1 : 0;
    }

    // ---- 3 who

    public int suspects() {
        return ways.suspectsOf(now, now.notes.foundOnes, now.everyone());
    }

    public int with(int who) {
        if (!now.isPerson(who)) {
            return BAD;
        }
        return ways.thingsOf(now, now.notes.foundOnes, who);
    }

    public int way(int who, int thing, int tick) {
        if (!now.isPerson(who) || !isThing(thing) || !isTick(tick)) {
            return BAD;
        }
        if (!has(ways.thingsOf(now, now.notes.foundOnes, who), thing)) {
            return NONE;
        }
        return ways.placeAt(now, who, thing, tick);
    }

    public int doer() {
        int those = suspects();
        return Integer.bitCount(those) == 1 ? first(those) : NONE;
    }

    public int next() {
        int before = suspects();
        int best = NONE;
        int fewest = MOST_PEOPLE + 1;
        for (int find = 0; find < now.notes.count; find++) {
            if (!now.notes.isFound(find)) {
                int left = Integer.bitCount(ways.suspectsOf(now, now.notes.foundOnes | 1 << find, before));
                if (left >= 1 && left < fewest) {
                    fewest = left;
                    best = find;
                }
            }
        }
        return best;
    }

    public int fewest() {
        int those = least();
        return those < 0 ? those : Integer.bitCount(those);
    }

    public int least() {
        if (now.notes.count > MOST_SEARCHED) {
            return FULL;
        }
        return search(now, ways, now.notes.count, 0, ways.suspectsOf(now, 0, now.everyone()), NONE);
    }

    public int claim(int who) {
        if (!now.isPerson(who)) {
            return BAD;
        }
        if (ways.thingsOf(now, 0, who) == 0) {
            return NONE;
        }
        int set = 0;
        for (int i = 0; i < now.notes.foundCount; i++) {
            int find = now.notes.order[i];
            set |= 1 << find;
            if (ways.thingsOf(now, set, who) == 0) {
                return find;
            }
        }
        return NOT;
    }

    // ---- 4 cases by number

    public int make(int number) {
        return maker.fill(now, number);
    }

    // ---- 5 sheets

    public int sheet(int sheet, int lane, int n) {
        if (!isSheet(sheet) || !isLane(lane) || n > MOST_ITEMS) {
            return BAD;
        }
        if (n < 0) {
            return SIZE;
        }
        sheets[sheet].renew(lane, n);
        return n;
    }

    public int drop(int sheet) {
        if (!isSheet(sheet)) {
            return BAD;
        }
        Sheet row = sheets[sheet];
        if (row.lane == EMPTY) {
            return NULL;
        }
        row.lane = EMPTY;
        return row.length;
    }

    public int item(int sheet, int lane, int i, int v) {
        if (!isSheet(sheet) || !isLane(lane)) {
            return BAD;
        }
        Sheet row = sheets[sheet];
        int taken = row.takenAs(lane);
        if (taken < 0) {
            return taken;
        }
        if (i < 0 || i >= row.length) {
            return INDEX;
        }
        row.items[i] = lane == BYTES ? (byte) v : v;
        return 1;
    }

    // ---- what the calls share

    private static boolean isPlace(int n) {
        return n >= 0 && n < PLACES;
    }

    private static boolean isTick(int n) {
        return n >= 0 && n < TICKS;
    }

    private static boolean isThing(int n) {
        return n >= 0 && n < THINGS;
    }

    private static boolean isSheet(int n) {
        return n >= 0 && n < SHEETS;
    }

    private static boolean isLane(int n) {
        return n >= 0 && n < LANES;
    }

    private static boolean has(int set, int member) {
        return (set >> member & 1) == 1;
    }

    private static int first(int set) {
        for (int i = 0; i < PLACES; i++) {
            if (has(set, i)) {
                return i;
            }
        }
        return 0;
    }

    private boolean areFinds(int[] items, int from, int n) {
        for (int k = 0; k < n; k++) {
            int at = from + k * ROW;
            if (!now.isFind(items[at], items[at + 1], items[at + 2], items[at + 3], items[at + 4])) {
                return false;
            }
        }
        return true;
    }

    private void layFinds(int[] items, int from, int n) {
        for (int k = 0; k < n; k++) {
            int at = from + k * ROW;
            now.notes.add(items[at], items[at + 1], items[at + 2], items[at + 3], items[at + 4]);
        }
    }

    // The best of: `best` (NONE if there is none yet), and `chosen` with any of the FINDS below `below`.
    // Leaving a FIND out is tried ahead of taking it, so sets come rising as bits, and of like ones the first stays.
    private static int search(Scene scene, Ways ways, int below, int chosen, int those, int best) {
        int left = Integer.bitCount(those);
        int size = Integer.bitCount(chosen);
        if (left == 1) {
            return best == NONE || size < Integer.bitCount(best) ? chosen : best;
        }
        if (left == 0 || below <= 0 || best != NONE && size + 1 >= Integer.bitCount(best)) {
            return best;
        }
        // More FINDS never make more SUSPECTS: if all that may be taken leave two, no choice of them leaves one.
        if (Integer.bitCount(ways.suspectsOf(scene, chosen | (1 << below) - 1, those)) > 1) {
            return best;
        }
        int without = search(scene, ways, below - 1, chosen, those, best);
        int taken = chosen | 1 << below - 1;
        return search(scene, ways, below - 1, taken, ways.suspectsOf(scene, taken, those), without);
    }

    // The doors between the places.
    private static final class House {
        private final int[] near = new int[PLACES];
        // For each set of places (bit k is place k): where one who is in it may be a TICK later, or was a TICK ago.
        private final int[] step = new int[SETS_OF_PLACES];
        private int doors;

        House() {
            clearDoors();
        }

        void clearDoors() {
            doors = 0;
            for (int place = 0; place < PLACES; place++) {
                near[place] = 0;
            }
            for (int set = 0; set < SETS_OF_PLACES; set++) {
                step[set] = set;
            }
        }

        boolean joined(int a, int b) {
            return has(near[a], b);
        }

        void join(int a, int b) {
            doors++;
            near[a] |= 1 << b;
            near[b] |= 1 << a;
            for (int set = 0; set < SETS_OF_PLACES; set++) {
                if (has(set, a)) {
                    step[set] |= 1 << b;
                }
                if (has(set, b)) {
                    step[set] |= 1 << a;
                }
            }
        }

        int reached(int set) {
            return step[set & EVERYWHERE];
        }

        int doorsBetween(int from, int to) {
            int set = 1 << from;
            for (int far = 0; far < PLACES; far++) {
                if (has(set, to)) {
                    return far;
                }
                set = reached(set);
            }
            return PLACES;
        }

        int stepTowards(int from, int to) {
            int far = doorsBetween(from, to);
            for (int place = 0; place < PLACES; place++) {
                if (joined(from, place) && doorsBetween(place, to) < far) {
                    return place;
                }
            }
            return from;
        }

        int neighbour(int place, int number) {
            int left = number;
            for (int other = 0; other < PLACES; other++) {
                if (joined(place, other)) {
                    if (left == 0) {
                        return other;
                    }
                    left--;
                }
            }
            return place;
        }
    }

    // The FINDS, and which of them are FOUND.
    private static final class Notes {
        private final int[] rows = new int[MOST_FINDS * ROW];
        private int count;
        // The FOUND ones: as bits, and in the order in which they were FOUND latest.
        private int foundOnes;
        private final int[] order = new int[MOST_FINDS];
        private int foundCount;

        boolean holds(int find) {
            return find >= 0 && find < count;
        }

        int kind(int find) {
            return rows[find * ROW];
        }

        int who(int find) {
            return rows[find * ROW + 1];
        }

        int other(int find) {
            return rows[find * ROW + 2];
        }

        // How many of the numbers a, b, c, d a KIND has.
        private static int numbers(int kind) {
            switch (kind) {
                case NOT_BY:
                    return 1;
                case STILL:
                case GONE:
                    return 2;
                case I_SAW:
                    return 4;
                default:
                    return 3;
            }
        }

        void add(int kind, int a, int b, int c, int d) {
            int at = count * ROW;
            int numbers = numbers(kind);
            rows[at] = kind;
            rows[at + 1] = a;
            rows[at + 2] = numbers > 1 ? b : 0;
            rows[at + 3] = numbers > 2 ? c : 0;
            rows[at + 4] = numbers > 3 ? d : 0;
            count++;
        }

        void forget() {
            count = 0;
            foundOnes = 0;
            foundCount = 0;
        }

        boolean nameOneFrom(int n) {
            for (int find = 0; find < count; find++) {
                int kind = kind(find);
                boolean aThing = kind == STILL || kind == GONE;
                if (!aThing && who(find) >= n || kind == I_SAW && other(find) >= n) {
                    return true;
                }
            }
            return false;
        }

        boolean isFound(int find) {
            return has(foundOnes, find);
        }

        // One that is FOUND again goes behind the others: the order is of when each was FOUND latest.
        void setFound(int find, boolean is) {
            int kept = 0;
            for (int i = 0; i < foundCount; i++) {
                if (order[i] != find) {
                    order[kept] = order[i];
                    kept++;
                }
            }
            foundCount = kept;
            foundOnes &= ~(1 << find);
            if (is) {
                order[foundCount] = find;
                foundCount++;
                foundOnes |= 1 << find;
            }
        }

        int foundClues() {
            int clues = 0;
            for (int i = 0; i < foundCount; i++) {
                if (kind(order[i]) < I_WAS) {
                    clues |= 1 << order[i];
                }
            }
            return clues;
        }
    }

    // All that a CASE BY A NUMBER is put in place of.
    private static final class Scene {
        private final House house = new House();
        private final Notes notes = new Notes();
        private final int[] lying = new int[THINGS];
        private int people = USUAL_PEOPLE;
        private int place;
        private int tick = 5;
        private int victim = NOBODY;

        Scene() {
            for (int thing = 0; thing < THINGS; thing++) {
                lying[thing] = thing;
            }
        }

        boolean isPerson(int n) {
            return n >= 0 && n < people;
        }

        int everyone() {
            return (1 << people) - 1;
        }

        boolean isFind(int kind, int a, int b, int c, int d) {
            switch (kind) {
                case STILL:
                case GONE:
                    return isThing(a) && isTick(b);
                case NOT_BY:
                    return isPerson(a);
                case I_SAW:
                    return isPerson(a) && isPerson(b) && a != b && isPlace(c) && isTick(d);
                default:
                    return kind >= 0 && kind < KINDS && isPerson(a) && isPlace(b) && isTick(c);
            }
        }
    }

    // The WAYS that FIT, as sets of places TICK by TICK; its rows are made once and used for each question.
    private static final class Ways {
        // Where each of PEOPLE may be at each TICK, its row at its number times TICKS.
        private final int[] may = new int[MOST_PEOPLE * TICKS];
        // From where at each TICK one can go on to the last: at all, and so that the THING is taken then or later.
        private final int[] goesOn = new int[TICKS];
        private final int[] takes = new int[TICKS];
        // The first and the last TICK at which each of THINGS can have been taken.
        private final int[] soonest = new int[THINGS];
        private final int[] latest = new int[THINGS];
        // Those whom a NOT BY names, as bits.
        private int cleared;

        int suspectsOf(Scene scene, int set, int among) {
            int those = 0;
            for (int who = 0; who < scene.people; who++) {
                if (has(among, who) && thingsOf(scene, set, who) != 0) {
                    those |= 1 << who;
                }
            }
            return those;
        }

        // The THINGS with which who COULD HAVE DONE IT by a set of FINDS, as bits.
        int thingsOf(Scene scene, int set, int who) {
            listen(scene, set, who);
            if (who == scene.victim || has(cleared, who)) {
                return 0;
            }
            gather(scene, who);
            for (int one = 0; one < scene.people; one++) {
                if (!fits(scene.house, one)) {
                    return 0;
                }
            }
            int things = 0;
            for (int thing = 0; thing < THINGS; thing++) {
                trace(scene, who, thing);
                if (takes[0] != 0) {
                    things |= 1 << thing;
                }
            }
            return things;
        }

        // The first WAY of who with a thing by what is FOUND, right behind thingsOf() of the same.
        int placeAt(Scene scene, int who, int thing, int tick) {
            trace(scene, who, thing);
            boolean taken = false;
            int open = takes[0];
            int place = 0;
            for (int t = 0; t <= tick; t++) {
                place = first(open);
                taken = taken || canBeTaken(thing, t) && place == scene.lying[thing];
                if (t + 1 < TICKS) {
                    open = scene.house.reached(1 << place) & (taken ? goesOn[t + 1] : takes[t + 1]);
                }
            }
            return place;
        }

        boolean deny(Scene scene, int saying) {
            listen(scene, scene.notes.foundClues() | 1 << saying, NOBODY);
            return !fits(scene.house, scene.notes.who(saying))
                || scene.notes.kind(saying) == I_SAW && !fits(scene.house, scene.notes.other(saying));
        }

        // What a set of FINDS tells, without the SAYINGS of one who is not believed.
        private void listen(Scene scene, int set, int notBelieved) {
            for (int i = 0; i < may.length; i++) {
                may[i] = EVERYWHERE;
            }
            for (int thing = 0; thing < THINGS; thing++) {
                soonest[thing] = 0;
                latest[thing] = scene.tick;
            }
            cleared = 0;
            for (int find = 0; find < scene.notes.count; find++) {
                boolean own = scene.notes.kind(find) >= I_WAS && scene.notes.who(find) == notBelieved;
                if (has(set, find) && !own) {
                    hear(scene.notes.rows, find * ROW);
                }
            }
        }

        private void hear(int[] rows, int at) {
            int a = rows[at + 1];
            int b = rows[at + 2];
            int c = rows[at + 3];
            int d = rows[at + 4];
            switch (rows[at]) {
                case STILL:
                    soonest[a] = Math.max(soonest[a], b);
                    break;
                case GONE:
                    latest[a] = Math.min(latest[a], b - 1);
                    break;
                case NOT_BY:
                    cleared |= 1 << a;
                    break;
                case WAS_NOT:
                case I_WAS_NOT:
                    may[a * TICKS + c] &= ~(1 << b);
                    break;
                case I_SAW:
                    may[a * TICKS + d] &= 1 << c;
                    may[b * TICKS + d] &= 1 << c;
                    break;
                default:
                    may[a * TICKS + c] &= 1 << b;
            }
        }

        // At THE DEED are who and THE VICTIM, and nobody else.
        private void gather(Scene scene, int who) {
            int there = 1 << scene.place;
            for (int one = 0; one < scene.people; one++) {
                boolean present = one == who || one == scene.victim;
                may[one * TICKS + scene.tick] &= present ? there : ~there;
            }
        }

        private boolean fits(House house, int one) {
            int set = EVERYWHERE;
            for (int t = 0; t < TICKS; t++) {
                set = house.reached(set) & may[one * TICKS + t];
            }
            return set != 0;
        }

        // Backward from the last TICK, for all places at once.
        private void trace(Scene scene, int who, int thing) {
            int later = EVERYWHERE;
            int takesLater = 0;
            for (int t = TICKS - 1; t >= 0; t--) {
                goesOn[t] = later & may[who * TICKS + t];
                takes[t] = takesLater & may[who * TICKS + t];
                if (canBeTaken(thing, t)) {
                    takes[t] |= goesOn[t] & 1 << scene.lying[thing];
                }
                later = scene.house.reached(goesOn[t]);
                takesLater = scene.house.reached(takes[t]);
            }
        }

        private boolean canBeTaken(int thing, int tick) {
            return tick >= soonest[thing] && tick <= latest[thing];
        }
    }

    // Cases by number.
    private static final class Maker {
        private static final int RING = 8, MORE_DOORS = 2, MADE_PEOPLE = 4;
        private final int[] ways = new int[MADE_PEOPLE * TICKS];
        private int x;

        int fill(Scene scene, int number) {
            x = number;
            scene.people = MADE_PEOPLE;
            build(scene.house);
            for (int thing = 0; thing < THINGS; thing++) {
                scene.lying[thing] = draw(PLACES);
            }
            for (int who = 0; who < MADE_PEOPLE; who++) {
                wander(scene.house, who);
            }
            scene.victim = 0;
            scene.tick = 5 + draw(4);
            scene.place = ways[scene.tick];
            int doer = 1 + draw(3);
            int thing = draw(THINGS);
            approach(scene, doer, thing);
            for (int who = 1; who < MADE_PEOPLE; who++) {
                if (who != doer && at(who, scene.tick) == scene.place) {
                    turnAway(scene, who);
                }
            }
            writeClues(scene, doer, thing);
            writeSayings(scene);
            return doer;
        }

        private int draw(int m) {
            x = x * 1103515245 + 12345;
            return m > 0 ? (x >>> 16) % m : 0;
        }

        private int at(int who, int tick) {
            return ways[who * TICKS + tick];
        }

        private void build(House house) {
            house.clearDoors();
            for (int place = 0; place < RING; place++) {
                house.join(place, (place + 1) % RING);
            }
            for (int i = 0; i < MORE_DOORS; i++) {
                int a = draw(PLACES);
                int b = (a + 2 + draw(5)) % PLACES;
                if (!house.joined(a, b)) {
                    house.join(a, b);
                }
            }
        }

        private void wander(House house, int who) {
            int place = draw(PLACES);
            ways[who * TICKS] = place;
            for (int t = 1; t < TICKS; t++) {
                if (draw(3) != 0) {
                    place = house.neighbour(place, draw(Integer.bitCount(house.near[place])));
                }
                ways[who * TICKS + t] = place;
            }
        }

        private void approach(Scene scene, int doer, int thing) {
            int place = scene.lying[thing];
            ways[doer * TICKS] = place;
            for (int t = 1; t < TICKS; t++) {
                place = scene.house.stepTowards(place, scene.place);
                ways[doer * TICKS + t] = place;
            }
        }

        private void turnAway(Scene scene, int who) {
            int before = at(who, scene.tick - 1);
            int away = before != scene.place ? before : scene.house.neighbour(scene.place, 0);
            for (int t = scene.tick; t < TICKS; t++) {
                ways[who * TICKS + t] = away;
            }
        }

        private void writeClues(Scene scene, int doer, int thing) {
            scene.notes.forget();
            for (int who = 0; who < MADE_PEOPLE; who++) {
                writePlace(scene.notes, WAS, who);
            }
            scene.notes.add(NOT_BY, doer == 1 ? 2 : 1, 0, 0, 0);
            scene.notes.add(STILL, thing, 0, 0, 0);
            scene.notes.add(GONE, thing, scene.tick + 1, 0, 0);
        }

        private void writeSayings(Scene scene) {
            for (int who = 1; who < MADE_PEOPLE; who++) {
                writePlace(scene.notes, I_WAS, who);
                writePlace(scene.notes, I_WAS, who);
                if (at(who, 0) == at(0, 0)) {
                    scene.notes.add(I_SAW, who, 0, at(who, 0), 0);
                } else {
                    scene.notes.add(I_WAS_NOT, who, scene.place, scene.tick, 0);
                }
            }
        }

        private void writePlace(Notes notes, int kind, int who) {
            int tick = draw(TICKS);
            notes.add(kind, who, at(who, tick), tick, 0);
        }
    }

    // A row of a lane, or nothing. Its items are kept as ints in both lanes, so that no call makes a row.
    private static final class Sheet {
        private final int[] items = new int[MOST_ITEMS];
        private int lane = EMPTY;
        private int length;

        int takenAs(int asLane) {
            if (lane == EMPTY) {
                return NULL;
            }
            return lane == asLane ? 0 : CAST;
        }

        void renew(int newLane, int n) {
            lane = newLane;
            length = n;
            for (int i = 0; i < n; i++) {
                items[i] = 0;
            }
        }
    }
}
