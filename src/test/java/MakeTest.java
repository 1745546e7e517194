import java.util.Set;
import java.util.TreeSet;

/** Promise 21: make; whole cases are held against PlainDesk. */
public final class MakeTest {
    private static final String[] SORTS = {"done by 1", "done by 2", "done by 3", "with 0", "with 1", "with 2", "at tick 5",
        "at tick 6", "at tick 7", "at tick 8", "9 doors", "10 doors", "1 saw 0", "1 saw no 0", "2 saw 0", "2 saw no 0",
        "3 saw 0", "3 saw no 0", "taken at the deed's place", "taken elsewhere", "turned back", "turned aside"};
    private static final Set<String> met = new TreeSet<>();

    public static void main(String[] args) {
        inPlaceOfAll();
        againTheSame();
        for (int number = -200; number < 200; number++) {
            whole(number);
            whole(number * 10000019);
        }
        whole(Integer.MIN_VALUE);
        whole(Integer.MAX_VALUE);
        for (String sort : SORTS) {
            Check.holds("21: no case was " + sort, met.contains(sort));
        }
        Check.due("21: sorts of cases", met.size(), SORTS.length);
        Check.end();
    }

    private static void inPlaceOfAll() {
        DeedDesk x = new DeedDesk();
        x.people(6);
        x.deed(1, 1, 5);
        x.lies(0, 7);
        x.door(0, 4);
        for (int k = 0; k < 20; k++) {
            x.found(x.find(0, 5, 7, 9, 0), true);
        }
        x.sheet(0, 0, 5);
        x.sheet(1, 1, 50);
        x.item(0, 0, 0, 4);
        Check.due("21: make(1)", x.make(1), 1);
        Check.due("21: people", x.told(3), 4);
        Check.due("21: victim", x.told(2), 0);
        Check.due("21: place", x.told(0), 5);
        Check.due("21: tick", x.told(1), 7);
        Check.due("21: doors", x.told(4), 9);
        for (int find = 0; find < 16; find++) {
            Check.due("21: not found", x.about(find, 5), 0);
        }
        Check.due("21: sixteen finds", x.about(16, 0), DeedDesk.BAD);
        Check.due("21: by no finds", x.suspects(), 14);
        Check.due("21: in no order", x.claim(1), DeedDesk.NOT);
        Check.due("21: the sheet stays", x.finds(0, 0, 0, 1), 17);
        Check.due("21: the sheet's items stay", x.about(16, 0), 4);
        Check.due("21: the other sheet stays", x.drop(1), 50);
    }

    private static void againTheSame() {
        DeedDesk x = new DeedDesk();
        for (int number = 0; number < 5; number++) {
            int doer = x.make(number);
            x.make(number + 77);
            Check.due("21: make(" + number + ") again", x.make(number), doer);
            Check.holds("21: one of 1, 2, 3", doer >= 1 && doer <= 3);
        }
    }

    /** What a case must be put in place of. */
    private static void clutter(DeedDesk x) {
        x.people(6);
        x.deed(7, 9, 5);
        for (int place = 0; place < 8; place++) {
            x.door(place, (place + 3) % 8);
            x.find(5, 5, place, place, 0);
            x.found(place, true);
        }
    }

    private static void meet(DeedDesk x, PlainDesk y, int doer) {
        int thing = x.about(5, 1);
        int lies = x.lies(thing, 0);
        x.lies(thing, lies);
        met.add("done by " + doer);
        met.add("with " + thing);
        met.add("at tick " + x.told(1));
        met.add(x.told(4) + " doors");
        met.add(lies == x.told(0) ? "taken at the deed's place" : "taken elsewhere");
        for (int who = 1; who < 4; who++) {
            met.add(who + (x.about(6 + 3 * who, 0) == 7 ? " saw 0" : " saw no 0"));
        }
        if (y.turnedBack > 0) {
            met.add("turned back");
        }
        if (y.turnedAside > 0) {
            met.add("turned aside");
        }
    }

    private static void whole(int number) {
        DeedDesk x = new DeedDesk();
        PlainDesk y = new PlainDesk();
        String what = "21: case " + number + " ";
        clutter(x);
        int doer = x.make(number);
        Check.due(what + "doer", doer, y.make(number));
        meet(x, y, doer);
        for (int of = 0; of < 5; of++) {
            Check.due(what + "told " + of, x.told(of), y.told(of));
        }
        for (int find = 0; find < 17; find++) {
            for (int of = 0; of < 6; of++) {
                Check.due(what + "find " + find, x.about(find, of), y.about(find, of));
            }
            Check.due(what + "found", x.found(find, true), y.found(find, true));
        }
        Check.holds(what + "is whole: who did it could have", (x.suspects() >> doer & 1) == 1);
        for (int thing = 0; thing < 3; thing++) {
            Check.due(what + "thing", x.lies(thing, 0), y.lies(thing, 0));
        }
        for (int a = 0; a < 8; a++) {
            for (int b = a + 1; b < 8; b++) {
                Check.due(what + "door", x.door(a, b), y.door(a, b));
            }
        }
    }
}
