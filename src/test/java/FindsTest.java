/** Promises 7 and 9 to 12: find, found, about, clear, denied. (finds is in SheetTest.) */
public final class FindsTest {
    private static final int MIN = Integer.MIN_VALUE, MAX = Integer.MAX_VALUE;

    public static void main(String[] args) {
        findEachKind();
        findBad();
        findFull();
        found();
        about();
        clear();
        deniedAnswers();
        deniedByWhat();
        deniedTwo();
        deniedKnowsNoDeed();
        Check.end();
    }

    private static void row(String what, DeedDesk x, int find, int... want) {
        for (int k = 0; k < want.length; k++) {
            Check.due(what + " number " + k, x.about(find, k), want[k]);
        }
    }

    private static void findEachKind() {
        DeedDesk x = new DeedDesk();
        int[][] laid = {{0, 3, 7, 9, 50}, {1, 3, 7, 9, MIN}, {2, 2, 9, 60, 70}, {3, 2, 9, -5, MAX}, {4, 3, -1, 99, 98},
            {5, 3, 7, 9, -1}, {6, 3, 7, 9, 1}, {7, 3, 2, 7, 9}};
        int[][] told = {{0, 3, 7, 9, 0, 0}, {1, 3, 7, 9, 0, 0}, {2, 2, 9, 0, 0, 0}, {3, 2, 9, 0, 0, 0}, {4, 3, 0, 0, 0, 0},
            {5, 3, 7, 9, 0, 0}, {6, 3, 7, 9, 0, 0}, {7, 3, 2, 7, 9, 0}};
        for (int k = 0; k < laid.length; k++) {
            Check.due("7: kind " + k, x.find(laid[k][0], laid[k][1], laid[k][2], laid[k][3], laid[k][4]), k);
        }
        for (int k = 0; k < laid.length; k++) {
            row("7: kind " + k, x, k, told[k]);
        }
    }

    private static void findBad() {
        DeedDesk x = new DeedDesk();
        int[][] bad = {{-1, 0, 0, 0, 0}, {8, 0, 0, 0, 0}, {MIN, 0, 0, 0, 0}, {MAX, 0, 0, 0, 0},
            {2, 3, 0, 0, 0}, {2, -1, 0, 0, 0}, {2, 0, 10, 0, 0}, {2, 0, -1, 0, 0},
            {3, 3, 0, 0, 0}, {3, -1, 0, 0, 0}, {3, 0, 10, 0, 0}, {3, 0, -1, 0, 0},
            {4, 4, 0, 0, 0}, {4, -1, 0, 0, 0}, {7, 4, 0, 0, 0}, {7, -1, 0, 0, 0}, {7, 0, 4, 0, 0}, {7, 0, -1, 0, 0},
            {7, 0, 1, 8, 0}, {7, 0, 1, -1, 0}, {7, 0, 1, 0, 10}, {7, 0, 1, 0, -1}, {7, 2, 2, 0, 0}};
        for (int[] b : bad) {
            Check.due("7: bad of kind " + b[0], x.find(b[0], b[1], b[2], b[3], b[4]), DeedDesk.BAD);
        }
        for (int kind : new int[] {0, 1, 5, 6}) {
            for (int[] b : new int[][] {{4, 0, 0}, {-1, 0, 0}, {0, 8, 0}, {0, -1, 0}, {0, 0, 10}, {0, 0, -1}, {MAX, MAX, MAX}}) {
                Check.due("7: bad of kind " + kind, x.find(kind, b[0], b[1], b[2], 0), DeedDesk.BAD);
            }
        }
        Check.due("7: none was laid", x.clear(), 0);
    }

    private static void findFull() {
        DeedDesk x = new DeedDesk();
        for (int k = 0; k < 20; k++) {
            Check.due("7: find", x.find(4, k % 4, 0, 0, 0), k);
        }
        Check.due("7: full", x.find(4, 0, 0, 0, 0), DeedDesk.FULL);
        Check.due("7: BAD ahead of FULL", x.find(4, 4, 0, 0, 0), DeedDesk.BAD);
        Check.due("7: twenty", x.clear(), 20);
    }

    private static void found() {
        DeedDesk x = new DeedDesk();
        x.find(4, 0, 0, 0, 0);
        x.find(4, 1, 0, 0, 0);
        for (int find : new int[] {-1, 2, MIN, MAX}) {
            Check.due("9: no such find", x.found(find, true), DeedDesk.BAD);
        }
        Check.due("9: was not", x.found(1, true), 0);
        Check.due("9: was", x.found(1, true), 1);
        Check.due("9: the other is not", x.about(0, 5), 0);
        Check.due("9: it is", x.about(1, 5), 1);
        Check.due("9: was", x.found(1, false), 1);
        Check.due("9: not any more", x.found(1, false), 0);
        Check.due("9: it is not", x.about(1, 5), 0);
    }

    private static void about() {
        DeedDesk x = new DeedDesk();
        Check.due("10: no find", x.about(0, 0), DeedDesk.BAD);
        x.find(7, 3, 1, 6, 8);
        row("10: I SAW", x, 0, 7, 3, 1, 6, 8, 0);
        for (int what : new int[] {-1, 6, MIN, MAX}) {
            Check.due("10: what " + what, x.about(0, what), DeedDesk.BAD);
        }
        for (int find : new int[] {-1, 1, MIN, MAX}) {
            Check.due("10: find " + find, x.about(find, 0), DeedDesk.BAD);
        }
    }

    private static void clear() {
        DeedDesk x = new DeedDesk();
        Check.due("11: none", x.clear(), 0);
        x.find(4, 1, 0, 0, 0);
        x.find(4, 2, 0, 0, 0);
        x.found(1, true);
        Check.due("11: two", x.clear(), 2);
        Check.due("11: gone", x.about(0, 0), DeedDesk.BAD);
        Check.due("11: a find is number 0 again", x.find(4, 3, 0, 0, 0), 0);
        x.find(4, 1, 0, 0, 0);
        Check.due("11: not found any more", x.about(1, 5), 0);
        Check.due("11: by none", x.suspects(), 15);
    }

    private static void deniedAnswers() {
        DeedDesk x = new DeedDesk();
        for (int kind = 0; kind < 5; kind++) {
            x.find(kind, 1, 0, 0, 0);
            Check.due("12: a clue", x.denied(kind), DeedDesk.CAST);
        }
        x.find(5, 1, 0, 0, 0);
        x.find(6, 1, 0, 0, 0);
        x.find(7, 1, 2, 0, 0);
        for (int find = 5; find < 8; find++) {
            Check.due("12: nothing is found", x.denied(find), 0);
        }
        for (int find : new int[] {-1, 8, MIN, MAX}) {
            Check.due("12: find " + find, x.denied(find), DeedDesk.BAD);
        }
    }

    /** A row of places 0 - 1 - 2 - 3: from 0 at tick 0 one is at 3 at tick 3 at the soonest. */
    private static void deniedByWhat() {
        DeedDesk x = new DeedDesk();
        x.door(0, 1);
        x.door(1, 2);
        x.door(2, 3);
        x.find(0, 1, 0, 0, 0);
        x.find(5, 1, 3, 2, 0);
        x.find(5, 1, 3, 3, 0);
        x.find(5, 2, 3, 2, 0);
        x.find(6, 1, 0, 0, 0);
        x.find(5, 1, 1, 3, 0);
        x.find(1, 1, 2, 2, 0);
        Check.due("12: the clue is not found", x.denied(1), 0);
        x.found(0, true);
        Check.due("12: too far, found or not", x.denied(1), 1);
        Check.due("12: just in time", x.denied(2), 0);
        Check.due("12: of another", x.denied(3), 0);
        Check.due("12: was there", x.denied(4), 1);
        x.found(1, true);
        x.found(5, true);
        Check.due("12: sayings deny none", x.denied(2), 0);
        x.found(6, true);
        Check.due("12: was not on the way", x.denied(2), 1);
        x.found(0, false);
        Check.due("12: not any more", x.denied(1), 0);
    }

    private static void deniedTwo() {
        DeedDesk x = new DeedDesk();
        x.find(0, 2, 4, 6, 0);
        x.find(7, 1, 2, 5, 6);
        x.find(7, 2, 1, 5, 6);
        x.find(7, 1, 2, 4, 6);
        x.find(7, 1, 3, 5, 6);
        x.found(0, true);
        Check.due("12: whom it names was elsewhere", x.denied(1), 1);
        Check.due("12: who says it was elsewhere", x.denied(2), 1);
        Check.due("12: both can be", x.denied(3), 0);
        Check.due("12: of others", x.denied(4), 0);
        x.find(0, 0, 1, 1, 0);
        x.find(0, 0, 2, 1, 0);
        x.found(5, true);
        x.found(6, true);
        Check.due("12: that another has no way is no matter", x.denied(3), 0);
    }

    private static void deniedKnowsNoDeed() {
        DeedDesk x = new DeedDesk();
        x.deed(3, 4, 0);
        x.find(5, 1, 3, 4, 0);
        x.find(5, 0, 2, 4, 0);
        x.find(4, 1, 0, 0, 0);
        x.found(2, true);
        Check.due("12: at the deed", x.denied(0), 0);
        Check.due("12: the victim, elsewhere", x.denied(1), 0);
    }
}
