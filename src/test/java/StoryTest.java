import java.util.Random;

/** Promises 12 to 20: cases that hang together, told by people who mostly do not lie, held against PlainDesk. */
public final class StoryTest {
    private final Random random;
    private final DeedDesk x = new DeedDesk();
    private final PlainDesk y = new PlainDesk();
    private final int people;
    private final int[][] ways;
    private final boolean[][] joined = new boolean[8][8];
    private final String what;

    private StoryTest(int seed) {
        random = new Random(seed);
        what = "story " + seed + " ";
        people = 2 + random.nextInt(5);
        ways = new int[people][10];
    }

    public static void main(String[] args) {
        int runs = args.length > 0 ? Integer.parseInt(args[0]) : 100;
        int seed = args.length > 1 ? Integer.parseInt(args[1]) : 0;
        for (int run = 0; run < runs; run++) {
            new StoryTest(seed + run).play();
        }
        Check.end();
    }

    private void play() {
        build();
        wander();
        int finds = random.nextInt(13);
        for (int k = 0; k < finds; k++) {
            lay();
        }
        Check.due(what + "fewest", x.fewest(), y.fewest());
        Check.due(what + "least", x.least(), y.least());
        for (int k = 0; k < finds; k++) {
            int find = random.nextInt(finds);
            boolean is = random.nextInt(5) != 0;
            Check.due(what + "found", x.found(find, is), y.found(find, is));
            askAll(finds);
        }
    }

    private void build() {
        x.people(people);
        y.people(people);
        int doors = 4 + random.nextInt(9);
        for (int k = 0; k < doors; k++) {
            int a = random.nextInt(8);
            int b = random.nextBoolean() ? (a + 1) % 8 : random.nextInt(8);
            Check.due(what + "door", x.door(a, b), y.door(a, b));
            joined[a][b] = a != b;
            joined[b][a] = a != b;
        }
        for (int thing = 0; thing < 3; thing++) {
            int place = random.nextInt(8);
            x.lies(thing, place);
            y.lies(thing, place);
        }
    }

    private void wander() {
        for (int[] way : ways) {
            way[0] = random.nextInt(8);
            for (int t = 1; t < 10; t++) {
                int to = random.nextInt(8);
                way[t] = joined[way[t - 1]][to] ? to : way[t - 1];
            }
        }
        int tick = random.nextInt(10);
        int victim = random.nextInt(people + 1) - 1;
        int place = ways[random.nextInt(people)][tick];
        x.deed(place, tick, victim);
        y.deed(place, tick, victim);
    }

    private void lay() {
        int kind = random.nextInt(8);
        int who = random.nextInt(people);
        int tick = random.nextInt(10);
        boolean lie = random.nextInt(kind < 5 ? 12 : 4) == 0;
        int place = lie ? random.nextInt(8) : ways[who][tick];
        switch (kind) {
            case 2:
            case 3:
                add(kind, random.nextInt(3), tick, 0, 0);
                break;
            case 1:
            case 6:
                add(kind, who, lie ? place : (place + 1 + random.nextInt(7)) % 8, tick, 0);
                break;
            case 7:
                add(kind, who, (who + 1 + random.nextInt(people - 1)) % people, place, tick);
                break;
            default:
                add(kind, who, place, tick, 0);
        }
    }

    private void add(int kind, int a, int b, int c, int d) {
        Check.due(what + "find", x.find(kind, a, b, c, d), y.find(kind, a, b, c, d));
    }

    private void askAll(int finds) {
        Check.due(what + "suspects", x.suspects(), y.suspects());
        Check.due(what + "doer", x.doer(), y.doer());
        Check.due(what + "next", x.next(), y.next());
        for (int find = 0; find < finds; find++) {
            Check.due(what + "denied", x.denied(find), y.denied(find));
        }
        for (int who = 0; who < people; who++) {
            Check.due(what + "with", x.with(who), y.with(who));
            Check.due(what + "claim", x.claim(who), y.claim(who));
            for (int of = 0; of < 30; of++) {
                Check.due(what + "way", x.way(who, of / 10, of % 10), y.way(who, of / 10, of % 10));
            }
        }
    }
}
