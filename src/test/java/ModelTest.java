import java.util.Random;

/** All promises: long runs of mixed calls, each answer held against PlainDesk. */
public final class ModelTest {
    private static final int[] WILD = {Integer.MIN_VALUE, Integer.MAX_VALUE, -1, -2, 1 << 30, 60, 61, 255, 256, -1000};
    private final Random random;
    private final DeedDesk x = new DeedDesk();
    private final PlainDesk y = new PlainDesk();
    private int made = 0;

    private ModelTest(long seed) {
        random = new Random(seed);
    }

    public static void main(String[] args) {
        int runs = args.length > 0 ? Integer.parseInt(args[0]) : 300;
        int seed = args.length > 1 ? Integer.parseInt(args[1]) : 0;
        for (int run = 0; run < runs; run++) {
            new ModelTest(seed + run).play(run);
        }
        Check.end();
    }

    private void play(int run) {
        boolean full = run % 10 == 0;
        for (int call = 0; call < (full ? 512 : 150); call++) {
            String what = "run " + run + " call " + call + " ";
            int kind = random.nextInt(20);
            if (kind < 6) {
                house(what, random.nextInt(6));
            } else if (kind < 13) {
                finds(what, random.nextInt(12));
            } else if (kind < 17) {
                who(what);
            } else {
                sheets(what, random.nextInt(8));
            }
        }
        all("run " + run + " at its end ");
    }

    /** Mostly a number under the bound, now and then one at or beyond its edges. */
    private int n(int bound) {
        int roll = random.nextInt(60);
        if (roll == 0) {
            return WILD[random.nextInt(WILD.length)];
        }
        return roll == 1 ? -1 : roll == 2 ? bound : random.nextInt(bound);
    }

    private void house(String what, int call) {
        int a = n(8);
        int b = n(8);
        switch (call) {
            case 0:
                int people = random.nextInt(3) == 0 ? n(8) : 4 + random.nextInt(3);
                Check.due(what + "people", x.people(people), y.people(people));
                break;
            case 1:
            case 2:
                Check.due(what + "door", x.door(a, b), y.door(a, b));
                break;
            case 3:
                int thing = n(3);
                Check.due(what + "lies", x.lies(thing, b), y.lies(thing, b));
                break;
            case 4:
                int tick = n(10);
                int victim = n(7) - 1;
                Check.due(what + "deed", x.deed(a, tick, victim), y.deed(a, tick, victim));
                break;
            default:
                int of = n(5);
                Check.due(what + "told", x.told(of), y.told(of));
        }
    }

    private void finds(String what, int call) {
        int find = n(12);
        switch (call) {
            case 0:
                if (random.nextInt(8) == 0) {
                    Check.due(what + "clear", x.clear(), y.clear());
                }
                break;
            case 1:
                Check.due(what + "denied", x.denied(find), y.denied(find));
                break;
            case 2:
                int of = n(6);
                Check.due(what + "about", x.about(find, of), y.about(find, of));
                break;
            case 3:
                if (random.nextInt(6) == 0 && made < 4) {
                    made++;
                    int number = random.nextInt();
                    Check.due(what + "make", x.make(number), y.make(number));
                }
                break;
            case 4:
            case 5:
            case 6:
            case 7:
                boolean is = random.nextInt(3) != 0;
                Check.due(what + "found", x.found(find, is), y.found(find, is));
                break;
            default:
                lay(what);
        }
    }

    private void lay(String what) {
        int kind = n(8);
        boolean thing = kind == 2 || kind == 3;
        int a = n(thing ? 3 : 6);
        int b = n(thing ? 10 : kind == 7 ? 6 : 8);
        int c = n(kind == 7 ? 8 : 10);
        int d = n(10);
        Check.due(what + "find", x.find(kind, a, b, c, d), y.find(kind, a, b, c, d));
    }

    private void who(String what) {
        int who = n(6);
        int thing = n(3);
        int tick = n(10);
        switch (random.nextInt(8)) {
            case 0:
                Check.due(what + "with", x.with(who), y.with(who));
                break;
            case 1:
            case 2:
                Check.due(what + "way", x.way(who, thing, tick), y.way(who, thing, tick));
                break;
            case 3:
                Check.due(what + "doer", x.doer(), y.doer());
                break;
            case 4:
                Check.due(what + "next", x.next(), y.next());
                break;
            case 5:
                // The model is slow between these counts of finds; StoryTest asks there.
                boolean dear = x.about(6, 0) >= 0 && x.about(12, 0) < 0;
                if (!dear) {
                    Check.due(what + "fewest", x.fewest(), y.fewest());
                    Check.due(what + "least", x.least(), y.least());
                }
                break;
            case 6:
                Check.due(what + "claim", x.claim(who), y.claim(who));
                break;
            default:
                Check.due(what + "suspects", x.suspects(), y.suspects());
        }
    }

    private void sheets(String what, int call) {
        int sheet = n(2);
        int lane = random.nextInt(4) == 0 ? n(2) : sheet & 1;
        int i = n(40);
        if (call == 0) {
            int size = random.nextBoolean() ? n(60) : 60;
            Check.due(what + "sheet", x.sheet(sheet, lane, size), y.sheet(sheet, lane, size));
        } else if (call == 1 && random.nextInt(5) == 0) {
            Check.due(what + "drop", x.drop(sheet), y.drop(sheet));
        } else if (call < 5) {
            for (int k = 0; k < 10; k++) {
                int at = n(60);
                int v = at % 5 == 0 ? n(8) + 256 * random.nextInt(3) * (1 - (lane & 1)) : n(4);
                Check.due(what + "item", x.item(sheet, lane, at, v), y.item(sheet, lane, at, v));
            }
        } else {
            int n = random.nextInt(4) == 0 ? n(13) : n(3);
            Check.due(what + "finds", x.finds(sheet, lane, i, n), y.finds(sheet, lane, i, n));
        }
    }

    private void all(String what) {
        for (int of = 0; of < 5; of++) {
            Check.due(what + "told", x.told(of), y.told(of));
        }
        for (int find = 0; find < 20; find++) {
            for (int of = 0; of < 6; of++) {
                Check.due(what + "about", x.about(find, of), y.about(find, of));
            }
            Check.due(what + "denied", x.denied(find), y.denied(find));
        }
        for (int who = 0; who < 6; who++) {
            Check.due(what + "with", x.with(who), y.with(who));
            Check.due(what + "claim", x.claim(who), y.claim(who));
            for (int of = 0; of < 30; of++) {
                Check.due(what + "way", x.way(who, of / 10, of % 10), y.way(who, of / 10, of % 10));
            }
        }
    }
}
