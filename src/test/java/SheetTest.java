/** Promises 8 and 22 to 24: finds, sheet, drop, item. */
public final class SheetTest {
    private static final int MIN = Integer.MIN_VALUE, MAX = Integer.MAX_VALUE;

    public static void main(String[] args) {
        sheet();
        drop();
        item();
        itemsLowestBits();
        findsAnswers();
        findsLaid();
        findsNotAsTold();
        findsFull();
        Check.end();
    }

    private static void sheet() {
        DeedDesk x = new DeedDesk();
        int[][] bad = {{-1, 0, 5}, {2, 0, 5}, {0, -1, 5}, {0, 2, 5}, {0, 0, 61}, {MAX, 0, 0}, {0, MIN, 0}, {0, 0, MAX},
            {2, 0, -1}, {0, 2, -1}};
        for (int[] b : bad) {
            Check.due("22: sheet " + b[0] + " " + b[1] + " " + b[2], x.sheet(b[0], b[1], b[2]), DeedDesk.BAD);
        }
        Check.due("22: below 0", x.sheet(0, 0, -1), DeedDesk.SIZE);
        Check.due("22: far below 0", x.sheet(1, 1, MIN), DeedDesk.SIZE);
        Check.due("22: holds nothing yet", x.drop(0), DeedDesk.NULL);
        Check.due("22: none", x.sheet(0, 0, 0), 0);
        Check.due("22: a row of none is no nothing", x.drop(0), 0);
        Check.due("22: sixty", x.sheet(0, 1, 60), 60);
        Check.due("22: SIZE leaves it", x.sheet(0, 0, -1), DeedDesk.SIZE);
        Check.due("22: as it was", x.item(0, 1, 59, 1), 1);
        Check.due("22: a new row", x.sheet(0, 1, 10), 10);
        Check.due("22: it is shorter", x.item(0, 1, 10, 1), DeedDesk.INDEX);
    }

    private static void drop() {
        DeedDesk x = new DeedDesk();
        for (int sheet : new int[] {-1, 2, MIN, MAX}) {
            Check.due("23: drop " + sheet, x.drop(sheet), DeedDesk.BAD);
        }
        Check.due("23: nothing", x.drop(1), DeedDesk.NULL);
        x.sheet(1, 0, 7);
        x.sheet(0, 1, 9);
        Check.due("23: seven", x.drop(1), 7);
        Check.due("23: again", x.drop(1), DeedDesk.NULL);
        Check.due("23: the other stays", x.drop(0), 9);
        Check.due("23: an item of nothing", x.item(0, 1, 0, 0), DeedDesk.NULL);
        Check.due("23: finds of nothing", x.finds(0, 1, 0, 0), DeedDesk.NULL);
    }

    private static void item() {
        DeedDesk x = new DeedDesk();
        x.sheet(0, 0, 3);
        int[][] bad = {{-1, 0}, {2, 0}, {0, -1}, {0, 2}, {MAX, 0}, {0, MIN}};
        for (int[] b : bad) {
            Check.due("24: item " + b[0] + " " + b[1], x.item(b[0], b[1], 0, 0), DeedDesk.BAD);
            Check.due("24: BAD ahead of INDEX", x.item(b[0], b[1], -1, 0), DeedDesk.BAD);
        }
        Check.due("24: nothing", x.item(1, 0, 0, 0), DeedDesk.NULL);
        Check.due("24: NULL ahead of INDEX", x.item(1, 0, 60, 0), DeedDesk.NULL);
        Check.due("24: another lane", x.item(0, 1, 0, 0), DeedDesk.CAST);
        Check.due("24: CAST ahead of INDEX", x.item(0, 1, 3, 0), DeedDesk.CAST);
        for (int i : new int[] {-1, 3, MIN, MAX}) {
            Check.due("24: item " + i, x.item(0, 0, i, 0), DeedDesk.INDEX);
        }
        for (int i = 0; i < 3; i++) {
            Check.due("24: item " + i, x.item(0, 0, i, MAX), 1);
        }
    }

    private static void itemsLowestBits() {
        DeedDesk x = new DeedDesk();
        for (int lane = 0; lane < 2; lane++) {
            x.sheet(lane, lane, 5);
            x.item(lane, lane, 0, 256 + 4);
            x.item(lane, lane, 1, -256 + 3);
            Check.due("24: lowest bits", x.finds(lane, lane, 0, 1), lane == 0 ? 1 : DeedDesk.NOT);
        }
        Check.due("24: kind", x.about(0, 0), 4);
        Check.due("24: a", x.about(0, 1), 3);
        x.item(0, 0, 1, 255);
        Check.due("24: a byte below 0", x.finds(0, 0, 0, 1), DeedDesk.NOT);
        x.sheet(0, 0, 5);
        Check.due("22: a new row holds noughts", x.finds(0, 0, 0, 1), 2);
        Check.due("22: of kind 0", x.about(1, 0), 0);
    }

    private static void findsAnswers() {
        DeedDesk x = new DeedDesk();
        x.sheet(0, 0, 12);
        int[][] bad = {{-1, 0, 0, 1}, {2, 0, 0, 1}, {0, -1, 0, 1}, {0, 2, 0, 1}, {0, 0, 0, -1}, {0, 0, 0, 13},
            {0, 0, MAX, MAX}, {0, 0, -1, MIN}, {1, 0, 0, 13}, {0, 1, 0, 13}};
        for (int[] b : bad) {
            Check.due("8: bad", x.finds(b[0], b[1], b[2], b[3]), DeedDesk.BAD);
        }
        Check.due("8: nothing", x.finds(1, 0, -1, 1), DeedDesk.NULL);
        Check.due("8: another lane", x.finds(0, 1, -1, 1), DeedDesk.CAST);
        int[][] index = {{-1, 0}, {-1, 1}, {8, 1}, {3, 2}, {13, 0}, {0, 3}, {MAX, 0}, {MAX, 12}, {MIN, 0}, {MIN, 12}};
        for (int[] b : index) {
            Check.due("8: from " + b[0] + " " + b[1], x.finds(0, 0, b[0], b[1]), DeedDesk.INDEX);
        }
        Check.due("8: none were laid", x.clear(), 0);
        Check.due("8: to the last item", x.finds(0, 0, 7, 1), 1);
        Check.due("8: two", x.finds(0, 0, 2, 2), 3);
        Check.due("8: none, from behind the last", x.finds(0, 0, 12, 0), 3);
        x.sheet(1, 1, 0);
        Check.due("8: none of none", x.finds(1, 1, 0, 0), 3);
        Check.due("8: one of none", x.finds(1, 1, 0, 1), DeedDesk.INDEX);
    }

    private static void fill(DeedDesk x, int sheet, int lane, int... items) {
        x.sheet(sheet, lane, items.length);
        for (int i = 0; i < items.length; i++) {
            x.item(sheet, lane, i, items[i]);
        }
    }

    private static void findsLaid() {
        DeedDesk x = new DeedDesk();
        int[] items = {99, 7, 3, 2, 6, 9, 4, 1, 50, 60, 70, 2, 2, 8, 80, 90};
        for (int lane = 0; lane < 2; lane++) {
            fill(x, 0, lane, items);
            Check.due("8: three finds", x.finds(0, lane, 1, 3), 3 + 3 * lane);
        }
        int[][] want = {{7, 3, 2, 6, 9, 0}, {4, 1, 0, 0, 0, 0}, {2, 2, 8, 0, 0, 0}};
        for (int find = 0; find < 6; find++) {
            for (int what = 0; what < 6; what++) {
                Check.due("8: find " + find, x.about(find, what), want[find % 3][what]);
            }
        }
        Check.due("8: the sheet stays", x.drop(0), 16);
    }

    private static void findsNotAsTold() {
        DeedDesk x = new DeedDesk();
        fill(x, 1, 1, 4, 1, 0, 0, 0, 4, 4, 0, 0, 0, 8, 0, 0, 0, 0, 7, 1, 1, 0, 0);
        Check.due("8: the second is not as told", x.finds(1, 1, 0, 2), DeedDesk.NOT);
        Check.due("8: none was laid", x.about(0, 0), DeedDesk.BAD);
        Check.due("8: no such kind", x.finds(1, 1, 10, 1), DeedDesk.NOT);
        Check.due("8: I SAW itself", x.finds(1, 1, 15, 1), DeedDesk.NOT);
        x.people(5);
        Check.due("8: now 4 is there", x.finds(1, 1, 0, 2), 2);
    }

    private static void findsFull() {
        DeedDesk x = new DeedDesk();
        x.sheet(0, 1, 60);
        Check.due("8: twelve", x.finds(0, 1, 0, 12), 12);
        Check.due("8: too many", x.finds(0, 1, 0, 9), DeedDesk.FULL);
        Check.due("8: to the last", x.finds(0, 1, 0, 8), 20);
        Check.due("8: none more", x.finds(0, 1, 0, 1), DeedDesk.FULL);
        Check.due("8: none", x.finds(0, 1, 0, 0), 20);
        x.item(0, 1, 0, 8);
        Check.due("8: NOT ahead of FULL", x.finds(0, 1, 0, 1), DeedDesk.NOT);
        Check.due("8: INDEX ahead of NOT", x.finds(0, 1, 56, 1), DeedDesk.INDEX);
    }
}
