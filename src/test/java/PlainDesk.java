import java.util.ArrayList;
import java.util.List;

/** The document once more, in its plainest form and of other parts than the program: what the program is held against. */
final class PlainDesk {
    private static final int BAD = -1, NOT = -2, FULL = -3, NONE = -4, NULL = -11, CAST = -12, INDEX = -13, SIZE = -14;

    private static final class Find {
        int kind, a, b, c, d;
        boolean found;

        boolean isSaying() {
            return kind >= 5;
        }

        boolean tellsOf(int person, int tick) {
            if (kind == 7) {
                return d == tick && (a == person || b == person);
            }
            return kind != 2 && kind != 3 && kind != 4 && a == person && c == tick;
        }

        boolean agrees(int place) {
            if (kind == 7) {
                return place == c;
            }
            return kind == 1 || kind == 6 ? place != b : place == b;
        }
    }

    private int people = 4, place = 0, tick = 5, victim = -1;
    private int[] lying = {0, 1, 2};
    private List<int[]> doors = new ArrayList<>();
    private List<Find> finds = new ArrayList<>();
    private List<Find> order = new ArrayList<>();
    private final Object[] sheets = new Object[2];
    private long x;
    /** How many made cases had one who was at the deed, turned back to where it was, or aside to the least place. */
    int turnedBack, turnedAside;

    int people(int n) {
        if (n < 2 || n > 6) {
            return BAD;
        }
        boolean named = victim >= n;
        for (Find f : finds) {
            named |= f.kind != 2 && f.kind != 3 && f.a >= n;
            named |= f.kind == 7 && f.b >= n;
        }
        if (named) {
            return NOT;
        }
        int was = people;
        people = n;
        return was;
    }

    int door(int a, int b) {
        if (!in(a, 8) || !in(b, 8) || a == b) {
            return BAD;
        }
        if (joined(a, b)) {
            return NOT;
        }
        if (doors.size() == 12) {
            return FULL;
        }
        doors.add(new int[] {a, b});
        return doors.size();
    }

    int lies(int thing, int where) {
        if (!in(thing, 3) || !in(where, 8)) {
            return BAD;
        }
        int was = lying[thing];
        lying[thing] = where;
        return was;
    }

    int deed(int p, int t, int v) {
        if (!in(p, 8) || !in(t, 10) || !in(v, people) && v != -1) {
            return BAD;
        }
        place = p;
        tick = t;
        victim = v;
        return 1;
    }

    int told(int what) {
        int[] all = {place, tick, victim < 0 ? -2 : victim, people, doors.size()};
        return in(what, 5) ? all[what] : BAD;
    }

    int find(int kind, int a, int b, int c, int d) {
        Find f = read(kind, a, b, c, d);
        if (f == null) {
            return BAD;
        }
        if (finds.size() == 20) {
            return FULL;
        }
        finds.add(f);
        return finds.size() - 1;
    }

    int finds(int sheet, int lane, int i, int n) {
        if (!in(sheet, 2) || !in(lane, 2) || !in(n, 13)) {
            return BAD;
        }
        List<Find> more = new ArrayList<>();
        int got = machine(sheet, lane);
        if (got != 0) {
            return got;
        }
        long length = lane == 0 ? ((byte[]) sheets[sheet]).length : ((int[]) sheets[sheet]).length;
        if (i < 0 || i + 5L * n > length) {
            return INDEX;
        }
        for (int k = i; k < i + 5 * n; k += 5) {
            Find f = read(at(sheet, k), at(sheet, k + 1), at(sheet, k + 2), at(sheet, k + 3), at(sheet, k + 4));
            if (f == null) {
                return NOT;
            }
            more.add(f);
        }
        if (finds.size() + n > 20) {
            return FULL;
        }
        finds.addAll(more);
        return finds.size();
    }

    int found(int find, boolean is) {
        if (!in(find, finds.size())) {
            return BAD;
        }
        Find f = finds.get(find);
        boolean was = f.found;
        f.found = is;
        order.remove(f);
        if (is) {
            order.add(f);
        }
        return was ? 1 : 0;
    }

    int about(int find, int what) {
        if (!in(find, finds.size()) || !in(what, 6)) {
            return BAD;
        }
        Find f = finds.get(find);
        return new int[] {f.kind, f.a, f.b, f.c, f.d, f.found ? 1 : 0}[what];
    }

    int clear() {
        int had = finds.size();
        finds.clear();
        order.clear();
        return had;
    }

    int denied(int find) {
        if (!in(find, finds.size())) {
            return BAD;
        }
        Find f = finds.get(find);
        if (!f.isSaying()) {
            return CAST;
        }
        List<Find> by = new ArrayList<>();
        for (Find g : finds) {
            if (g.found && !g.isSaying() || g == f) {
                by.add(g);
            }
        }
        boolean can = wayOf(f.a, -1, by, -1, false) != null;
        can &= f.kind != 7 || wayOf(f.b, -1, by, -1, false) != null;
        return can ? 0 : 1;
    }

    int suspects() {
        return suspectsBy(foundOnes());
    }

    int with(int who) {
        if (!in(who, people)) {
            return BAD;
        }
        int bits = 0;
        for (int w = 0; w < 3; w++) {
            bits |= could(who, w, foundOnes()) ? 1 << w : 0;
        }
        return bits;
    }

    int way(int who, int thing, int t) {
        if (!in(who, people) || !in(thing, 3) || !in(t, 10)) {
            return BAD;
        }
        return could(who, thing, foundOnes()) ? wayOf(who, who, foundOnes(), thing, true)[t] : NONE;
    }

    int doer() {
        for (int q = 0; q < people; q++) {
            if (suspects() == 1 << q) {
                return q;
            }
        }
        return NONE;
    }

    int next() {
        int best = NONE;
        int fewest = 99;
        for (int k = finds.size() - 1; k >= 0; k--) {
            if (!finds.get(k).found) {
                List<Find> by = foundOnes();
                by.add(finds.get(k));
                int left = Integer.bitCount(suspectsBy(by));
                if (left > 0 && left <= fewest) {
                    fewest = left;
                    best = k;
                }
            }
        }
        return best;
    }

    int fewest() {
        int those = least();
        return those < 0 ? those : Integer.bitCount(those);
    }

    int least() {
        if (finds.size() > 12) {
            return FULL;
        }
        int best = NONE;
        for (int bits = 0; bits < 1 << finds.size(); bits++) {
            if (best == NONE || Integer.bitCount(bits) < Integer.bitCount(best)) {
                List<Find> by = new ArrayList<>();
                for (int k = 0; k < finds.size(); k++) {
                    if ((bits >> k & 1) == 1) {
                        by.add(finds.get(k));
                    }
                }
                if (Integer.bitCount(suspectsBy(by)) == 1) {
                    best = bits;
                }
            }
        }
        return best;
    }

    int claim(int who) {
        if (!in(who, people)) {
            return BAD;
        }
        if ((suspects() >> who & 1) == 1) {
            return NOT;
        }
        for (int n = 0; n <= order.size(); n++) {
            if ((suspectsBy(order.subList(0, n)) >> who & 1) == 0) {
                return n == 0 ? NONE : finds.indexOf(order.get(n - 1));
            }
        }
        throw new AssertionError();
    }

    int make(int number) {
        x = number & 0xffffffffL;
        people = 4;
        doors = new ArrayList<>();
        for (int p = 0; p < 8; p++) {
            doors.add(new int[] {p, (p + 1) % 8});
        }
        for (int i = 0; i < 2; i++) {
            int a = draw(8);
            int b = (a + 2 + draw(5)) % 8;
            if (!joined(a, b)) {
                doors.add(new int[] {a, b});
            }
        }
        lying = new int[] {draw(8), draw(8), draw(8)};
        int[][] ways = new int[4][10];
        for (int[] way : ways) {
            way[0] = draw(8);
            for (int t = 1; t < 10; t++) {
                boolean stays = draw(3) == 0;
                List<Integer> near = nextTo(way[t - 1]);
                way[t] = stays ? way[t - 1] : near.get(draw(near.size()));
            }
        }
        victim = 0;
        tick = 5 + draw(4);
        place = ways[0][tick];
        int d = 1 + draw(3);
        int w = draw(3);
        int[][] far = distances();
        ways[d][0] = lying[w];
        for (int t = 1; t < 10; t++) {
            ways[d][t] = ways[d][t - 1];
            for (int p : nextTo(ways[d][t - 1])) {
                if (far[p][place] < far[ways[d][t - 1]][place] && ways[d][t] == ways[d][t - 1]) {
                    ways[d][t] = p;
                }
            }
        }
        for (int p = 1; p < 4; p++) {
            if (p != d && ways[p][tick] == place) {
                boolean back = ways[p][tick - 1] != place;
                int to = back ? ways[p][tick - 1] : nextTo(place).get(0);
                turnedBack += back ? 1 : 0;
                turnedAside += back ? 0 : 1;
                for (int t = tick; t < 10; t++) {
                    ways[p][t] = to;
                }
            }
        }
        finds = new ArrayList<>();
        order = new ArrayList<>();
        write(ways, d, w);
        return d;
    }

    private void write(int[][] ways, int d, int w) {
        for (int p = 0; p < 4; p++) {
            int t = draw(10);
            finds.add(read(0, p, ways[p][t], t, 0));
        }
        finds.add(read(4, d == 1 ? 2 : 1, 0, 0, 0));
        finds.add(read(2, w, 0, 0, 0));
        finds.add(read(3, w, tick + 1, 0, 0));
        for (int p = 1; p < 4; p++) {
            for (int i = 0; i < 2; i++) {
                int t = draw(10);
                finds.add(read(5, p, ways[p][t], t, 0));
            }
            boolean together = ways[p][0] == ways[0][0];
            finds.add(together ? read(7, p, 0, ways[p][0], 0) : read(6, p, place, tick, 0));
        }
    }

    int sheet(int sheet, int lane, int n) {
        if (!in(sheet, 2) || !in(lane, 2) || n > 60) {
            return BAD;
        }
        if (n < 0) {
            return SIZE;
        }
        if (lane == 0) {
            sheets[sheet] = new byte[n];
        } else {
            sheets[sheet] = new int[n];
        }
        return n;
    }

    int drop(int sheet) {
        if (!in(sheet, 2)) {
            return BAD;
        }
        Object was = sheets[sheet];
        if (was == null) {
            return NULL;
        }
        sheets[sheet] = null;
        return was instanceof byte[] ? ((byte[]) was).length : ((int[]) was).length;
    }

    int item(int sheet, int lane, int i, int v) {
        if (!in(sheet, 2) || !in(lane, 2)) {
            return BAD;
        }
        try {
            if (sheets[sheet] == null) {
                return NULL;
            }
            if (lane == 0) {
                ((byte[]) sheets[sheet])[i] = (byte) v;
            } else {
                ((int[]) sheets[sheet])[i] = v;
            }
            return 1;
        } catch (ClassCastException e) {
            return CAST;
        } catch (ArrayIndexOutOfBoundsException e) {
            return INDEX;
        }
    }

    private static boolean in(int n, int bound) {
        return n >= 0 && n < bound;
    }

    private int machine(int sheet, int lane) {
        if (sheets[sheet] == null) {
            return NULL;
        }
        return sheets[sheet] instanceof byte[] == (lane == 0) ? 0 : CAST;
    }

    private int at(int sheet, int k) {
        return sheets[sheet] instanceof byte[] ? ((byte[]) sheets[sheet])[k] : ((int[]) sheets[sheet])[k];
    }

    private Find read(int kind, int a, int b, int c, int d) {
        boolean good = in(kind, 8);
        Find f = new Find();
        f.kind = kind;
        f.a = a;
        if (kind == 2 || kind == 3) {
            good &= in(a, 3) && in(b, 10);
            f.b = b;
        } else if (kind == 4) {
            good &= in(a, people);
        } else if (kind == 7) {
            good &= in(a, people) && in(b, people) && a != b && in(c, 8) && in(d, 10);
            f.b = b;
            f.c = c;
            f.d = d;
        } else {
            good &= in(a, people) && in(b, 8) && in(c, 10);
            f.b = b;
            f.c = c;
        }
        return good ? f : null;
    }

    private boolean joined(int a, int b) {
        for (int[] door : doors) {
            if (door[0] == a && door[1] == b || door[0] == b && door[1] == a) {
                return true;
            }
        }
        return false;
    }

    private List<Integer> nextTo(int p) {
        List<Integer> near = new ArrayList<>();
        for (int q = 0; q < 8; q++) {
            if (joined(p, q)) {
                near.add(q);
            }
        }
        return near;
    }

    private int[][] distances() {
        int[][] far = new int[8][8];
        for (int a = 0; a < 8; a++) {
            for (int b = 0; b < 8; b++) {
                far[a][b] = a == b ? 0 : joined(a, b) ? 1 : 99;
            }
        }
        for (int k = 0; k < 8; k++) {
            for (int a = 0; a < 8; a++) {
                for (int b = 0; b < 8; b++) {
                    far[a][b] = Math.min(far[a][b], far[a][k] + far[k][b]);
                }
            }
        }
        return far;
    }

    /** An int that goes round, told in 64 bits and without a sign. */
    private int draw(int m) {
        x = (x * 1103515245L + 12345L) % (1L << 32);
        return (int) ((x >> 16) % m);
    }

    private List<Find> foundOnes() {
        List<Find> by = new ArrayList<>();
        for (Find f : finds) {
            if (f.found) {
                by.add(f);
            }
        }
        return by;
    }

    private int suspectsBy(List<Find> by) {
        int bits = 0;
        for (int q = 0; q < people; q++) {
            if (could(q, 0, by) || could(q, 1, by) || could(q, 2, by)) {
                bits |= 1 << q;
            }
        }
        return bits;
    }

    private boolean could(int q, int w, List<Find> by) {
        if (q == victim) {
            return false;
        }
        for (Find f : by) {
            if (f.kind == 4 && f.a == q) {
                return false;
            }
        }
        for (int p = 0; p < people; p++) {
            if (wayOf(p, q, by, w, true) == null) {
                return false;
            }
        }
        return true;
    }

    /** The first way of p, tick by tick, or null; q is who did it with w, with the deed to look at or not. */
    private int[] wayOf(int p, int q, List<Find> by, int w, boolean withDeed) {
        int[] way = new int[10];
        boolean[] hopeless = new boolean[10 * 8 * 2];
        boolean need = withDeed && p == q;
        return goOn(p, q, by, w, withDeed, way, 0, !need, hopeless) ? way : null;
    }

    private boolean goOn(int p, int q, List<Find> by, int w, boolean withDeed, int[] way, int t, boolean taken,
            boolean[] hopeless) {
        if (t == 10) {
            return taken;
        }
        for (int to = 0; to < 8; to++) {
            if (t > 0 && to != way[t - 1] && !joined(to, way[t - 1])) {
                continue;
            }
            if (!fits(p, q, by, t, to) || withDeed && !fitsDeed(p, q, t, to)) {
                continue;
            }
            boolean then = taken || to == lying[w] && canTake(by, w, t);
            int state = (t * 8 + to) * 2 + (then ? 1 : 0);
            if (!hopeless[state]) {
                way[t] = to;
                if (goOn(p, q, by, w, withDeed, way, t + 1, then, hopeless)) {
                    return true;
                }
                hopeless[state] = true;
            }
        }
        return false;
    }

    private boolean fits(int p, int q, List<Find> by, int t, int at) {
        for (Find f : by) {
            boolean counts = !f.isSaying() || f.a != q;
            if (counts && f.tellsOf(p, t) && !f.agrees(at)) {
                return false;
            }
        }
        return true;
    }

    private boolean fitsDeed(int p, int q, int t, int at) {
        return t != tick || (at == place) == (p == q || p == victim);
    }

    private boolean canTake(List<Find> by, int w, int t) {
        boolean can = t <= tick;
        for (Find f : by) {
            can &= !(f.kind == 2 && f.a == w && t < f.b);
            can &= !(f.kind == 3 && f.a == w && t >= f.b);
        }
        return can;
    }
}
