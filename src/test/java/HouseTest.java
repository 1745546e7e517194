/** Promises 1 to 6: a new object, people, door, lies, deed, told. */
public final class HouseTest {
    public static void main(String[] args) {
        newObject();
        people();
        peopleAreNamed();
        door();
        lies();
        deed();
        told();
        Check.end();
    }

    private static void newObject() {
        DeedDesk x = new DeedDesk();
        Check.due("1: place", x.told(0), 0);
        Check.due("1: tick", x.told(1), 5);
        Check.due("1: victim", x.told(2), -2);
        Check.due("1: people", x.told(3), 4);
        Check.due("1: doors", x.told(4), 0);
        Check.due("1: no finds", x.clear(), 0);
        Check.due("1: no find 0", x.about(0, 0), DeedDesk.BAD);
        for (int thing = 0; thing < 3; thing++) {
            Check.due("1: thing lies", x.lies(thing, 7), thing);
        }
        Check.due("1: sheet 0", x.drop(0), DeedDesk.NULL);
        Check.due("1: sheet 1", x.drop(1), DeedDesk.NULL);
        Check.due("1: one object does not change another", new DeedDesk().lies(0, 0), 0);
    }

    private static void people() {
        DeedDesk x = new DeedDesk();
        for (int n : new int[] {1, 7, 0, -1, Integer.MIN_VALUE, Integer.MAX_VALUE}) {
            Check.due("2: people " + n, x.people(n), DeedDesk.BAD);
        }
        Check.due("2: as it was", x.told(3), 4);
        Check.due("2: people 2", x.people(2), 4);
        Check.due("2: people 6", x.people(6), 2);
        Check.due("2: people 6 again", x.people(6), 6);
        Check.due("2: told", x.told(3), 6);
    }

    private static void peopleAreNamed() {
        DeedDesk x = new DeedDesk();
        x.people(6);
        x.deed(0, 5, 5);
        Check.due("2: the victim would go", x.people(5), DeedDesk.NOT);
        Check.due("2: BAD ahead of NOT", x.people(1), DeedDesk.BAD);
        Check.due("2: as it was", x.told(3), 6);
        x.deed(0, 5, 4);
        Check.due("2: the victim stays", x.people(5), 6);
        x.deed(0, 5, -1);
        int[][] naming = {{0, 3, 0, 0, 0}, {1, 3, 0, 0, 0}, {4, 3, 0, 0, 0}, {5, 3, 0, 0, 0}, {6, 3, 0, 0, 0},
            {7, 3, 0, 0, 0}, {7, 0, 3, 0, 0}};
        for (int[] row : naming) {
            x.clear();
            x.find(row[0], row[1], row[2], row[3], row[4]);
            Check.due("2: kind " + row[0] + " names 3", x.people(3), DeedDesk.NOT);
            Check.due("2: kind " + row[0] + " names no 4", x.people(4), 5);
            x.people(5);
        }
        x.clear();
        x.find(2, 2, 9, 0, 0);
        x.find(3, 2, 9, 0, 0);
        x.find(0, 0, 7, 9, 0);
        Check.due("2: things and places are not people", x.people(2), 5);
        x.people(6);
        x.find(4, 5, 0, 0, 0);
        x.clear();
        Check.due("2: a find that is gone names nobody", x.people(2), 6);
    }

    private static void door() {
        DeedDesk x = new DeedDesk();
        int[][] bad = {{0, 0}, {7, 7}, {-1, 0}, {0, -1}, {8, 0}, {0, 8}, {Integer.MAX_VALUE, 1}, {1, Integer.MIN_VALUE}};
        for (int[] row : bad) {
            Check.due("3: door " + row[0] + " " + row[1], x.door(row[0], row[1]), DeedDesk.BAD);
        }
        Check.due("3: none yet", x.told(4), 0);
        for (int place = 0; place < 7; place++) {
            Check.due("3: door", x.door(place, place + 1), place + 1);
        }
        Check.due("3: again", x.door(0, 1), DeedDesk.NOT);
        Check.due("3: the other way round", x.door(1, 0), DeedDesk.NOT);
        for (int place = 2; place < 7; place++) {
            Check.due("3: door from 0", x.door(place, 0), place + 6);
        }
        Check.due("3: full", x.door(0, 7), DeedDesk.FULL);
        Check.due("3: NOT ahead of FULL", x.door(3, 0), DeedDesk.NOT);
        Check.due("3: BAD ahead of FULL", x.door(3, 3), DeedDesk.BAD);
        Check.due("3: twelve", x.told(4), 12);
    }

    private static void lies() {
        DeedDesk x = new DeedDesk();
        int[][] bad = {{-1, 0}, {3, 0}, {0, -1}, {0, 8}, {Integer.MIN_VALUE, 0}, {0, Integer.MAX_VALUE}};
        for (int[] row : bad) {
            Check.due("4: lies " + row[0] + " " + row[1], x.lies(row[0], row[1]), DeedDesk.BAD);
        }
        Check.due("4: lies 0", x.lies(0, 7), 0);
        Check.due("4: lies 0 again", x.lies(0, 0), 7);
        Check.due("4: lies 2", x.lies(2, 0), 2);
        Check.due("4: lies 1, untouched", x.lies(1, 4), 1);
    }

    private static void deed() {
        DeedDesk x = new DeedDesk();
        int[][] bad = {{-1, 0, 0}, {8, 0, 0}, {0, -1, 0}, {0, 10, 0}, {0, 0, -2}, {0, 0, 4},
            {0, 0, Integer.MIN_VALUE}, {0, 0, Integer.MAX_VALUE}, {Integer.MAX_VALUE, 0, 0}, {0, Integer.MIN_VALUE, 0}};
        for (int[] row : bad) {
            Check.due("5: deed", x.deed(row[0], row[1], row[2]), DeedDesk.BAD);
        }
        Check.due("5: as it was", x.told(1), 5);
        Check.due("5: deed", x.deed(7, 9, 3), 1);
        Check.due("5: place", x.told(0), 7);
        Check.due("5: tick", x.told(1), 9);
        Check.due("5: victim", x.told(2), 3);
        Check.due("5: no victim", x.deed(0, 0, -1), 1);
        x.people(2);
        Check.due("5: who is not there", x.deed(0, 0, 2), DeedDesk.BAD);
        Check.due("5: the last who is there", x.deed(0, 0, 1), 1);
    }

    private static void told() {
        DeedDesk x = new DeedDesk();
        for (int what : new int[] {-1, 5, Integer.MIN_VALUE, Integer.MAX_VALUE}) {
            Check.due("6: told " + what, x.told(what), DeedDesk.BAD);
        }
        x.deed(6, 3, 0);
        Check.due("6: place", x.told(0), 6);
        Check.due("6: tick", x.told(1), 3);
        Check.due("6: victim 0", x.told(2), 0);
        x.deed(6, 3, -1);
        Check.due("6: no victim", x.told(2), -2);
    }
}
