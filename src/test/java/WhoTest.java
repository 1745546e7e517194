/** Promises 13 to 20: suspects, with, way, doer, next, fewest, least, claim. */
public final class WhoTest {
    private static final int MIN = Integer.MIN_VALUE, MAX = Integer.MAX_VALUE;

    public static void main(String[] args) {
        wrongNumbers();
        suspectsByNone();
        suspectsByOthersPlaces();
        suspectsBySayings();
        windowOfTaking();
        ways();
        wayToTheLastTick();
        doer();
        next();
        fewestAndLeast();
        fewestByNone();
        fewestFull();
        claim();
        claimInTheirOrder();
        Check.end();
    }

    /** Places 0 - 1 - 2 in a row; the deed is at 2 at tick 5, to 0. */
    private static DeedDesk row(int people) {
        DeedDesk x = new DeedDesk();
        x.people(people);
        x.door(0, 1);
        x.door(1, 2);
        x.deed(2, 5, 0);
        return x;
    }

    private static void lay(DeedDesk x, int kind, int a, int b, int c, int d) {
        x.found(x.find(kind, a, b, c, d), true);
    }

    private static void wrongNumbers() {
        DeedDesk x = row(4);
        for (int n : new int[] {-1, 4, MIN, MAX}) {
            Check.due("14: with " + n, x.with(n), DeedDesk.BAD);
            Check.due("15: way of " + n, x.way(n, 0, 0), DeedDesk.BAD);
            Check.due("20: claim " + n, x.claim(n), DeedDesk.BAD);
        }
        for (int n : new int[] {-1, 3, MIN, MAX}) {
            Check.due("15: thing " + n, x.way(1, n, 0), DeedDesk.BAD);
            Check.due("15: BAD ahead of NONE", x.way(0, n, 0), DeedDesk.BAD);
        }
        for (int n : new int[] {-1, 10, MIN, MAX}) {
            Check.due("15: tick " + n, x.way(1, 0, n), DeedDesk.BAD);
            Check.due("15: BAD ahead of NONE", x.way(0, 0, n), DeedDesk.BAD);
        }
    }

    private static void suspectsByNone() {
        DeedDesk x = row(4);
        Check.due("13: all but the victim", x.suspects(), 14);
        Check.due("14: the victim", x.with(0), 0);
        Check.due("14: all things", x.with(3), 7);
        x.deed(2, 5, -1);
        Check.due("13: all, if there is no victim", x.suspects(), 15);
        x.deed(2, 1, -1);
        Check.due("14: thing 0 is too far", x.with(1), 6);
        x.lies(1, 7);
        Check.due("14: thing 1 can't be reached", x.with(1), 4);
        x.deed(7, 0, -1);
        Check.due("14: there at once", x.with(1), 2);
        x.lies(1, 6);
        Check.due("13: with nothing", x.suspects(), 0);
    }

    private static void suspectsByOthersPlaces() {
        DeedDesk x = row(4);
        lay(x, 4, 2, 0, 0, 0);
        Check.due("13: NOT BY", x.suspects(), 10);
        lay(x, 0, 1, 2, 5, 0);
        Check.due("13: 1 was there, so 3 was not alone", x.suspects(), 2);
        lay(x, 0, 3, 0, 4, 0);
        Check.due("13: 3 was elsewhere", x.suspects(), 2);
        lay(x, 1, 0, 2, 5, 0);
        Check.due("13: the victim was not there", x.suspects(), 0);
        x = row(3);
        lay(x, 1, 1, 1, 4, 0);
        Check.due("13: by waiting at 2", x.suspects(), 6);
        lay(x, 1, 1, 2, 4, 0);
        Check.due("13: 0 at tick 4 is too far", x.suspects(), 4);
        x = row(3);
        lay(x, 0, 2, 7, 9, 0);
        Check.due("13: 2 is in a place without doors", x.suspects(), 2);
        lay(x, 0, 2, 0, 0, 0);
        Check.due("13: 2 has no way, so nobody could", x.suspects(), 0);
    }

    private static void suspectsBySayings() {
        DeedDesk x = row(3);
        lay(x, 5, 1, 0, 5, 0);
        Check.due("13: its own saying counts for nothing", x.suspects(), 6);
        Check.due("14: its own saying", x.with(1), 7);
        lay(x, 6, 2, 2, 5, 0);
        Check.due("13: likewise", x.suspects(), 6);
        x = row(3);
        lay(x, 5, 1, 2, 5, 0);
        Check.due("13: 1 says that it was there, so 2 was not alone", x.suspects(), 2);
        x = row(3);
        lay(x, 6, 0, 2, 5, 0);
        Check.due("13: the victim says that it was elsewhere", x.suspects(), 0);
        x = row(3);
        lay(x, 7, 1, 2, 0, 5);
        Check.due("13: who says so may lie, whom it names may not", x.suspects(), 2);
        x = row(4);
        lay(x, 7, 2, 1, 0, 4);
        Check.due("13: I SAW is told of both", x.suspects(), 12);
        x = row(4);
        lay(x, 7, 2, 0, 0, 4);
        Check.due("13: seen is the victim, too far from the deed", x.suspects(), 4);
        x = row(4);
        lay(x, 5, 1, 0, 0, 0);
        lay(x, 5, 1, 7, 0, 0);
        Check.due("13: 1 can't have a way but as the liar", x.suspects(), 2);
    }

    /** Thing 0 at place 0 is two steps from the deed, thing 2 lies at its place. */
    private static void windowOfTaking() {
        int[][] finds = {{2, 0, 3}, {2, 0, 4}, {3, 0, 1}, {3, 0, 0}, {2, 2, 5}, {2, 2, 6}, {3, 2, 9}, {3, 1, 1}, {2, 1, 4}};
        int[] things = {7, 6, 7, 6, 7, 3, 7, 7, 7};
        for (int k = 0; k < finds.length; k++) {
            DeedDesk x = row(2);
            lay(x, finds[k][0], finds[k][1], finds[k][2], 0, 0);
            Check.due("14: by window " + k, x.with(1), things[k]);
        }
        DeedDesk x = row(2);
        lay(x, 2, 2, 5, 0, 0);
        lay(x, 3, 2, 6, 0, 0);
        Check.due("14: taken at tick 5", x.with(1), 7);
        lay(x, 3, 2, 5, 0, 0);
        Check.due("14: the earlier GONE counts", x.with(1), 3);
        x = row(2);
        lay(x, 2, 0, 3, 0, 0);
        lay(x, 2, 0, 1, 0, 0);
        lay(x, 0, 1, 1, 3, 0);
        Check.due("14: the later STILL counts", x.with(1), 6);
        x.found(0, false);
        Check.due("14: the later STILL is not found", x.with(1), 7);
    }

    private static void isWay(String what, DeedDesk x, int who, int thing, int... places) {
        for (int t = 0; t < 10; t++) {
            Check.due("15: " + what + " tick " + t, x.way(who, thing, t), places[t]);
        }
    }

    private static void ways() {
        DeedDesk x = row(2);
        isWay("least", x, 1, 0, 0, 0, 0, 0, 1, 2, 1, 0, 0, 0);
        isWay("of the victim", x, 0, 0, -4, -4, -4, -4, -4, -4, -4, -4, -4, -4);
        x.lies(1, 2);
        x.find(2, 1, 2, 0, 0);
        x.find(3, 1, 4, 0, 0);
        x.found(0, true);
        isWay("taken at the deed", x, 1, 1, 0, 0, 0, 0, 1, 2, 1, 0, 0, 0);
        x.found(1, true);
        isWay("taken at 2 or 3", x, 1, 1, 0, 0, 1, 2, 1, 2, 1, 0, 0, 0);
        lay(x, 0, 1, 2, 0, 0);
        isWay("and from 2", x, 1, 1, 2, 1, 1, 2, 1, 2, 1, 0, 0, 0);
    }

    private static void wayToTheLastTick() {
        DeedDesk x = row(2);
        lay(x, 0, 1, 2, 9, 0);
        isWay("at 2 at tick 9", x, 1, 0, 0, 0, 0, 0, 1, 2, 1, 0, 1, 2);
        lay(x, 1, 1, 2, 9, 0);
        isWay("and not at 2 then", x, 1, 0, -4, -4, -4, -4, -4, -4, -4, -4, -4, -4);
    }

    private static void doer() {
        DeedDesk x = row(4);
        Check.due("16: three", x.doer(), DeedDesk.NONE);
        lay(x, 4, 1, 0, 0, 0);
        Check.due("16: two", x.doer(), DeedDesk.NONE);
        lay(x, 4, 3, 0, 0, 0);
        Check.due("16: one", x.doer(), 2);
        lay(x, 4, 2, 0, 0, 0);
        Check.due("16: nobody", x.doer(), DeedDesk.NONE);
        x = row(2);
        Check.due("16: by nothing", x.doer(), 1);
        x.people(6);
        x.deed(2, 5, 5);
        for (int who = 1; who < 5; who++) {
            lay(x, 4, who, 0, 0, 0);
        }
        Check.due("16: 0", x.doer(), 0);
    }

    private static void next() {
        DeedDesk x = row(4);
        Check.due("17: no finds", x.next(), DeedDesk.NONE);
        x.find(2, 0, 0, 0, 0);
        Check.due("17: one that parts nobody", x.next(), 0);
        x.find(4, 1, 0, 0, 0);
        x.find(4, 2, 0, 0, 0);
        Check.due("17: of like ones the least", x.next(), 1);
        x.find(1, 0, 2, 5, 0);
        Check.due("17: one at least is left", x.next(), 1);
        x.find(0, 3, 2, 5, 0);
        Check.due("17: the fewest", x.next(), 4);
        x.found(4, true);
        Check.due("17: one of the others", x.next(), 0);
        x.found(0, true);
        x.found(1, true);
        x.found(2, true);
        Check.due("17: only one that leaves nobody", x.next(), DeedDesk.NONE);
        x.found(3, true);
        Check.due("17: all are found", x.next(), DeedDesk.NONE);
        x = row(6);
        x.deed(2, 5, -1);
        x.find(2, 0, 0, 0, 0);
        Check.due("17: all six are left", x.next(), 0);
    }

    private static void fewestAndLeast() {
        DeedDesk x = row(4);
        x.find(4, 1, 0, 0, 0);
        x.find(4, 2, 0, 0, 0);
        x.find(4, 3, 0, 0, 0);
        x.find(4, 2, 0, 0, 0);
        Check.due("18: two", x.fewest(), 2);
        Check.due("19: the less bits", x.least(), 3);
        x.found(0, true);
        x.found(1, true);
        x.found(2, true);
        Check.due("18: FOUND or not", x.fewest(), 2);
        x.find(1, 0, 2, 5, 0);
        x.find(5, 3, 2, 5, 0);
        x.find(7, 1, 2, 2, 5);
        Check.due("18: one", x.fewest(), 1);
        Check.due("19: find 5", x.least(), 32);
        x = row(5);
        x.find(4, 1, 0, 0, 0);
        x.find(4, 2, 0, 0, 0);
        x.find(4, 3, 0, 0, 0);
        Check.due("18: three", x.fewest(), 3);
        x.find(5, 1, 0, 0, 0);
        x.find(5, 1, 7, 0, 0);
        Check.due("18: two that can't both be, said by 1", x.fewest(), 2);
        Check.due("19: two that can't both be, said by 1", x.least(), 24);
        x = row(4);
        x.find(4, 1, 0, 0, 0);
        x.find(1, 0, 2, 5, 0);
        Check.due("18: no set leaves one", x.fewest(), DeedDesk.NONE);
        Check.due("19: no set leaves one", x.least(), DeedDesk.NONE);
        x.find(4, 2, 0, 0, 0);
        x.find(4, 3, 0, 0, 0);
        Check.due("19: 1 and 2 of 1, 2, 3", x.least(), 5);
    }

    private static void fewestByNone() {
        DeedDesk x = row(2);
        Check.due("18: by no finds at all", x.fewest(), 0);
        Check.due("19: by no finds at all", x.least(), 0);
        x.find(4, 1, 0, 0, 0);
        x.found(0, true);
        Check.due("18: still by none", x.fewest(), 0);
        x.deed(7, 5, 0);
        Check.due("18: nobody could", x.fewest(), DeedDesk.NONE);
        Check.due("18: three could", row(4).fewest(), DeedDesk.NONE);
    }

    private static void fewestFull() {
        DeedDesk x = row(4);
        for (int k = 0; k < 11; k++) {
            x.find(4, 1, 0, 0, 0);
        }
        x.find(0, 3, 2, 5, 0);
        Check.due("18: twelve finds", x.fewest(), 1);
        Check.due("19: twelve finds", x.least(), 2048);
        x.find(4, 2, 0, 0, 0);
        Check.due("18: thirteen finds", x.fewest(), DeedDesk.FULL);
        Check.due("19: thirteen finds", x.least(), DeedDesk.FULL);
    }

    private static void claim() {
        DeedDesk x = row(4);
        Check.due("20: the victim", x.claim(0), DeedDesk.NONE);
        Check.due("20: nothing is found", x.claim(1), DeedDesk.NOT);
        x.find(4, 1, 0, 0, 0);
        x.find(0, 3, 2, 5, 0);
        x.find(4, 3, 0, 0, 0);
        Check.due("20: nothing is found yet", x.claim(1), DeedDesk.NOT);
        x.found(2, true);
        x.found(1, true);
        Check.due("20: 3 by the first", x.claim(3), 2);
        Check.due("20: 2 by the second", x.claim(2), 1);
        Check.due("20: 1 by the second", x.claim(1), 1);
        x.found(0, true);
        Check.due("20: still by the second", x.claim(1), 1);
        x.found(1, false);
        Check.due("20: by the last", x.claim(1), 0);
        Check.due("20: by none any more", x.claim(2), DeedDesk.NOT);
        Check.due("20: the victim", x.claim(0), DeedDesk.NONE);
    }

    private static void claimInTheirOrder() {
        DeedDesk x = row(4);
        x.find(4, 1, 0, 0, 0);
        x.find(4, 1, 0, 0, 0);
        x.find(4, 1, 0, 0, 0);
        x.found(2, true);
        x.found(0, true);
        x.found(1, true);
        Check.due("20: the first found", x.claim(1), 2);
        x.found(2, false);
        Check.due("20: the second found", x.claim(1), 0);
        x.found(2, true);
        Check.due("20: found latest again", x.claim(1), 0);
        x.found(0, true);
        Check.due("20: one found anew is found latest", x.claim(1), 1);
        x.clear();
        Check.due("20: all are gone", x.claim(1), DeedDesk.NOT);
        x.find(4, 2, 0, 0, 0);
        x.find(4, 1, 0, 0, 0);
        x.found(1, true);
        Check.due("20: in a new order", x.claim(1), 1);
        Check.due("20: what was found ahead of clear() is no more", x.claim(2), DeedDesk.NOT);
        x.found(1, false);
        Check.due("20: nothing is found any more", x.claim(1), DeedDesk.NOT);
        x = row(4);
        x.find(0, 1, 2, 1, 0);
        x.find(4, 3, 0, 0, 0);
        x.find(0, 1, 0, 0, 0);
        x.found(2, true);
        x.found(1, true);
        x.found(0, true);
        Check.due("20: by two that can't both be", x.claim(2), 0);
    }
}
