/** The document's boundary cases, sentence by sentence: promises 1 to 12 and 22 to 24. (13 to 21: WhoEdgesTest.) */
public final class EdgesTest {
    public static void main(String[] args) {
        newObject();
        people();
        door();
        liesDeedTold();
        findNumbers();
        findFull();
        findsFromSheet();
        foundAboutClear();
        denied();
        deniedAtTheEdges();
        sheet();
        item();
        lastCall();
        Check.end();
    }

    private static void newObject() {
        Calls.run("1: no doors", "told 4 = 0", "door 0 1 = 1");
        Calls.run("1: four of people", "told 3 = 4", "find 4 3 0 0 0 = 0", "find 4 4 0 0 0 = -1", "suspects = 15");
        Calls.run("1: no finds", "about 0 0 = -1", "found 0 1 = -1", "denied 0 = -1", "clear = 0", "find 4 0 0 0 0 = 0");
        Calls.run("1: the deed", "told 0 = 0", "told 1 = 5", "told 2 = -2");
        Calls.run("1: the things", "lies 0 0 = 0", "lies 1 1 = 1", "lies 2 2 = 2");
        Calls.run("1: the sheets hold nothing", "drop 0 = -11", "drop 1 = -11");
        Calls.run("1: a find is not found at first", "find 4 0 0 0 0 = 0", "about 0 5 = 0", "suspects = 15");
    }

    private static void people() {
        Calls.run("2: too few", "people 1 = -1", "told 3 = 4");
        Calls.run("2: too many", "people 7 = -1", "told 3 = 4");
        Calls.run("2: the fewest and the most", "people 2 = 4", "people 6 = 2", "people 6 = 6", "told 3 = 6");
        Calls.run("2: the victim", "deed 0 5 3 = 1", "people 3 = -2", "told 3 = 4", "people 4 = 4", "deed 0 5 2 = 1",
            "people 3 = 4");
        Calls.run("2: no victim", "deed 0 5 -1 = 1", "people 2 = 4");
        Calls.run("2: a find, found or not", "find 4 3 0 0 0 = 0", "people 3 = -2", "found 0 1 = 0", "people 3 = -2",
            "told 3 = 4", "clear = 1", "people 3 = 4");
        Calls.run("2: the twentieth find", "people 3 = 4", "sheet 0 0 60", "finds 0 0 0 12 = 12", "finds 0 0 0 7 = 19",
            "find 7 1 2 0 0 = 19", "people 2 = -2", "people 3 = 3");
        Calls.run("2: the other of I SAW alone", "find 7 0 3 0 0 = 0", "people 3 = -2");
        Calls.run("2: things, places and ticks are no people", "find 2 2 9 0 0 = 0", "find 3 2 9 0 0 = 1",
            "find 0 1 7 9 0 = 2", "find 7 0 1 7 9 = 3", "people 2 = 4");
        Calls.run("2: numbers not looked at name nobody", "find 4 0 5 5 5 = 0", "find 5 1 0 0 5 = 1", "people 2 = 4");
        Calls.run("2: who is not there", "people 2 = 4", "with 1 = 1", "with 2 = -1", "way 1 0 0 = 0", "way 2 0 0 = -1",
            "claim 1 = -2", "claim 2 = -1", "deed 0 5 1 = 1", "deed 0 5 2 = -1", "find 4 1 0 0 0 = 0", "find 4 2 0 0 0 = -1",
            "find 7 0 1 0 0 = 1", "find 7 0 2 0 0 = -1", "find 7 2 0 0 0 = -1");
        Calls.run("2: who is there with six", "people 6 = 4", "with 5 = 1", "way 5 0 9 = 0", "claim 5 = -2", "deed 0 5 5 = 1",
            "find 0 5 0 0 0 = 0", "find 7 5 4 0 0 = 1", "find 7 4 5 0 0 = 2", "with 6 = -1", "find 4 6 0 0 0 = -1");
    }

    private static void door() {
        Calls.run("3: a place too small", "door -1 0 = -1", "door 0 -1 = -1", "told 4 = 0");
        Calls.run("3: a place too large", "door 8 0 = -1", "door 0 8 = -1", "told 4 = 0");
        Calls.run("3: the first and the last place", "door 0 7 = 1", "door 7 6 = 2");
        Calls.run("3: one place", "door 0 0 = -1", "door 7 7 = -1", "door 0 1 = 1", "door 1 1 = -1", "told 4 = 1");
        Calls.run("3: joined", "door 2 3 = 1", "door 2 3 = -2", "door 3 2 = -2", "told 4 = 1");
        Calls.run("3: full", "door 0 1 = 1", "door 0 2 = 2", "door 0 3 = 3", "door 0 4 = 4", "door 0 5 = 5", "door 0 6 = 6",
            "door 0 7 = 7", "door 1 2 = 8", "door 1 3 = 9", "door 1 4 = 10", "door 1 5 = 11", "door 1 6 = 12", "door 1 7 = -3",
            "door 1 7 = -3", "told 4 = 12", "door 6 1 = -2", "door 8 1 = -1", "door 1 1 = -1");
    }

    private static void liesDeedTold() {
        Calls.run("4: too small", "lies -1 0 = -1", "lies 0 -1 = -1", "lies 0 0 = 0");
        Calls.run("4: too large", "lies 3 0 = -1", "lies 2 8 = -1", "lies 2 2 = 2");
        Calls.run("4: the edges", "lies 0 7 = 0", "lies 2 0 = 2", "lies 0 0 = 7", "lies 2 7 = 0", "lies 2 7 = 7");
        Calls.run("5: too small", "deed -1 5 0 = -1", "deed 0 -1 0 = -1", "deed 0 5 -2 = -1", "told 2 = -2");
        Calls.run("5: too large", "deed 8 5 0 = -1", "deed 0 10 0 = -1", "deed 0 5 4 = -1", "told 2 = -2");
        Calls.run("5: the least", "deed 0 0 -1 = 1", "told 0 = 0", "told 1 = 0", "told 2 = -2");
        Calls.run("5: the victim 0", "deed 0 0 0 = 1", "told 2 = 0");
        Calls.run("5: the most", "deed 7 9 3 = 1", "told 0 = 7", "told 1 = 9", "told 2 = 3");
        Calls.run("6: too small, too large", "told -1 = -1", "told 5 = -1", "told MIN = -1", "told MAX = -1");
        Calls.run("6: none, and again", "deed 0 0 1 = 1", "told 2 = 1", "deed 0 0 -1 = 1", "told 2 = -2");
        Calls.run("6: the edges", "deed 7 9 0 = 1", "told 0 = 7", "people 2 = 4", "told 3 = 2", "door 0 1 = 1", "told 4 = 1");
    }

    private static void findNumbers() {
        Calls.run("7: kind", "find -1 0 0 0 0 = -1", "find 8 0 0 0 0 = -1", "find MIN 0 0 0 0 = -1", "find MAX 0 0 0 0 = -1");
        for (int kind : new int[] {0, 1, 5, 6}) {
            String find = "find " + kind;
            Calls.run("7: the least and the most", find + " 0 0 0 0 = 0", find + " 3 7 9 0 = 1", "people 6",
                find + " 5 7 9 0 = 2");
            Calls.run("7: too small", find + " -1 0 0 0 = -1", find + " 0 -1 0 0 = -1", find + " 0 0 -1 0 = -1", "clear = 0");
            Calls.run("7: too large", find + " 4 0 0 0 = -1", find + " 0 8 0 0 = -1", find + " 0 0 10 0 = -1", "clear = 0");
            Calls.run("7: d is none of it", find + " 1 2 3 MAX = 0", find + " 1 2 3 MIN = 1", "about 0 4 = 0", "about 1 4 = 0",
                "about 1 0 = " + kind, "about 1 1 = 1", "about 1 2 = 2", "about 1 3 = 3");
        }
        for (int kind : new int[] {2, 3}) {
            String find = "find " + kind;
            Calls.run("7: the least and the most", find + " 0 0 0 0 = 0", find + " 2 9 0 0 = 1");
            Calls.run("7: too small", find + " -1 0 0 0 = -1", find + " 0 -1 0 0 = -1", "clear = 0");
            Calls.run("7: too large", find + " 3 0 0 0 = -1", find + " 0 10 0 0 = -1", "clear = 0");
            Calls.run("7: c and d are none of it", find + " 1 2 -1 10 = 0", "about 0 1 = 1", "about 0 2 = 2", "about 0 3 = 0",
                "about 0 4 = 0");
        }
        Calls.run("7: NOT BY", "find 4 0 0 0 0 = 0", "find 4 3 0 0 0 = 1", "find 4 -1 0 0 0 = -1", "find 4 4 0 0 0 = -1");
        Calls.run("7: b, c, d are none of it", "find 4 2 -1 10 MAX = 0", "about 0 1 = 2", "about 0 2 = 0", "about 0 3 = 0",
            "about 0 4 = 0");
        Calls.run("7: I SAW at the least and the most", "find 7 0 1 0 0 = 0", "find 7 3 2 7 9 = 1", "about 1 1 = 3",
            "about 1 2 = 2", "about 1 3 = 7", "about 1 4 = 9");
        Calls.run("7: I SAW too small", "find 7 -1 0 0 0 = -1", "find 7 0 -1 0 0 = -1", "find 7 0 1 -1 0 = -1",
            "find 7 0 1 0 -1 = -1");
        Calls.run("7: I SAW too large", "find 7 4 0 0 0 = -1", "find 7 0 4 0 0 = -1", "find 7 0 1 8 0 = -1",
            "find 7 0 1 0 10 = -1");
        Calls.run("7: I SAW itself", "find 7 0 0 0 0 = -1", "find 7 3 3 7 9 = -1", "clear = 0");
    }

    private static void findFull() {
        Calls.run("7: full", "sheet 0 0 60", "finds 0 0 0 12", "finds 0 0 0 7 = 19", "find 4 3 0 0 0 = 19", "find 4 3 0 0 0 = -3",
            "find 8 0 0 0 0 = -1", "find 4 4 0 0 0 = -1", "about 19 0 = 4", "about 19 1 = 3", "about 20 0 = -1", "clear = 20",
            "find 4 2 0 0 0 = 0", "about 1 0 = -1");
        Calls.run("7: the last find", "sheet 0 0 60", "finds 0 0 0 12", "finds 0 0 0 7 = 19", "find 4 3 0 0 0 = 19",
            "about 19 5 = 0", "found 19 1 = 0", "about 19 5 = 1", "about 18 5 = 0", "suspects = 7", "claim 3 = 19",
            "found 19 0 = 1", "suspects = 15", "found 20 1 = -1", "denied 19 = -12", "denied 20 = -1", "next = 0");
    }

    private static void findsFromSheet() {
        Calls.run("8: n too small, too large", "sheet 0 0 60", "finds 0 0 0 -1 = -1", "finds 0 0 0 13 = -1",
            "finds 0 0 0 MIN = -1", "finds 0 0 0 MAX = -1", "clear = 0");
        Calls.run("8: n 0 and 12", "sheet 0 0 60", "finds 0 0 0 0 = 0", "finds 0 0 0 12 = 12", "finds 0 0 60 0 = 12",
            "clear = 12");
        Calls.run("8: too small", "finds -1 0 0 0 = -1", "finds 0 -1 0 0 = -1");
        Calls.run("8: too large", "finds 2 0 0 0 = -1", "finds 0 2 0 0 = -1");
        Calls.run("8: holds nothing", "finds 0 0 0 0 = -11", "finds 1 1 -1 12 = -11", "finds 1 2 0 0 = -1");
        Calls.run("8: another lane", "sheet 0 0 5", "sheet 1 1 5", "finds 0 1 0 1 = -12", "finds 1 0 0 1 = -12",
            "finds 0 1 -1 1 = -12", "finds 1 0 1 1 = -12", "finds 0 0 0 1 = 1", "finds 1 1 0 1 = 2");
        Calls.run("8: an item too small, too large", "sheet 0 0 60", "finds 0 0 -1 1 = -13", "finds 0 0 56 1 = -13",
            "finds 0 0 55 1 = 1", "finds 0 0 1 12 = -13", "finds 0 0 0 12 = 13", "finds 0 0 MAX 12 = -13",
            "finds 0 0 MIN 12 = -13", "clear = 13");
        Calls.run("8: no find from an item too small, too large", "sheet 0 0 5", "finds 0 0 -1 0 = -13", "finds 0 0 6 0 = -13",
            "finds 0 0 5 0 = 0", "finds 0 0 MAX 0 = -13", "finds 0 0 MIN 0 = -13");
        Calls.run("8: an empty row", "sheet 0 0 0", "finds 0 0 0 0 = 0", "finds 0 0 0 1 = -13", "finds 0 0 1 0 = -13");
        Calls.run("8: one item is lacking", "sheet 0 1 9", "finds 0 1 0 2 = -13", "sheet 0 1 10", "finds 0 1 0 2 = 2");
        Calls.run("8: the last is not as told", "sheet 0 1 60", "item 0 1 55 8", "finds 0 1 0 12 = -2", "clear = 0",
            "finds 0 1 0 11 = 11", "item 0 1 55 -1", "finds 0 1 55 1 = -2", "item 0 1 55 7", "finds 0 1 55 1 = -2",
            "item 0 1 56 1", "finds 0 1 55 1 = 12", "about 11 0 = 7");
        Calls.run("8: full", "sheet 0 0 60", "finds 0 0 0 12 = 12", "finds 0 0 0 9 = -3", "clear = 12", "finds 0 0 0 12 = 12",
            "finds 0 0 0 8 = 20", "finds 0 0 0 1 = -3", "finds 0 0 0 0 = 20", "item 0 0 0 8", "finds 0 0 0 1 = -2",
            "finds 0 0 56 1 = -13", "finds 0 1 0 1 = -12", "finds 1 0 0 1 = -11", "finds 0 0 0 13 = -1");
        Calls.run("8: numbers that are none of it", "sheet 0 1 5", "item 0 1 0 4", "item 0 1 2 MAX", "item 0 1 3 MIN",
            "item 0 1 4 -1", "finds 0 1 0 1 = 1", "about 0 2 = 0", "about 0 3 = 0", "about 0 4 = 0");
        Calls.run("8: each number too small, too large", "sheet 0 1 5", "item 0 1 0 7", "item 0 1 1 3", "item 0 1 2 2",
            "item 0 1 3 7", "item 0 1 4 9", "finds 0 1 0 1 = 1", "item 0 1 1 4", "finds 0 1 0 1 = -2", "item 0 1 1 -1",
            "finds 0 1 0 1 = -2", "item 0 1 1 3", "item 0 1 2 4", "finds 0 1 0 1 = -2", "item 0 1 2 -1", "finds 0 1 0 1 = -2",
            "item 0 1 2 2", "item 0 1 3 8", "finds 0 1 0 1 = -2", "item 0 1 3 -1", "finds 0 1 0 1 = -2", "item 0 1 3 7",
            "item 0 1 4 10", "finds 0 1 0 1 = -2", "item 0 1 4 -1", "finds 0 1 0 1 = -2", "item 0 1 4 9", "finds 0 1 0 1 = 2",
            "about 1 0 = 7", "about 1 1 = 3", "about 1 2 = 2", "about 1 3 = 7", "about 1 4 = 9");
        Calls.run("8: none is found", "sheet 0 0 5", "find 4 0 0 0 0 = 0", "found 0 1 = 0", "finds 0 0 0 1 = 2",
            "about 1 5 = 0", "about 0 5 = 1");
    }

    private static void foundAboutClear() {
        Calls.run("9: too small, too large", "find 4 0 0 0 0 = 0", "found -1 1 = -1", "found 1 1 = -1", "found MIN 0 = -1",
            "found MAX 0 = -1", "found 32 1 = -1", "about 0 5 = 0");
        Calls.run("9: once more", "find 4 0 0 0 0 = 0", "found 0 0 = 0", "found 0 1 = 0", "found 0 1 = 1", "found 0 0 = 1",
            "found 0 0 = 0", "about 0 5 = 0");
        Calls.run("10: too small, too large", "find 7 3 2 7 9 = 0", "about 0 -1 = -1", "about 0 6 = -1", "about -1 0 = -1",
            "about 1 0 = -1", "about 0 0 = 7", "about 0 5 = 0");
        Calls.run("11: none, twenty, none again", "clear = 0", "sheet 0 0 60", "finds 0 0 0 12 = 12", "finds 0 0 0 8 = 20",
            "found 0 1 = 0", "found 19 1 = 0", "clear = 20", "clear = 0", "about 0 0 = -1", "found 0 1 = -1",
            "finds 0 0 0 12 = 12", "about 0 5 = 0", "finds 0 0 0 8 = 20", "about 19 5 = 0");
    }

    private static void denied() {
        Calls.run("12: too small, too large", "find 5 0 0 0 0 = 0", "denied -1 = -1", "denied 1 = -1", "denied MAX = -1");
        Calls.run("12: the last clue and the first saying", "find 4 0 0 0 0 = 0", "find 5 0 0 0 0 = 1", "denied 0 = -12",
            "denied 1 = 0");
        Calls.run("12: found or not", "find 0 0 1 0 0 = 0", "find 5 0 0 0 0 = 1", "denied 1 = 0", "found 0 1 = 0",
            "denied 1 = 1", "found 1 1 = 0", "denied 1 = 1", "denied 0 = -12", "found 0 0 = 1", "denied 1 = 0");
        Calls.run("12: I WAS NOT", "find 0 0 1 0 0 = 0", "find 6 0 1 0 0 = 1", "find 6 0 0 0 0 = 2", "found 0 1 = 0",
            "denied 1 = 1", "denied 2 = 0");
        Calls.run("12: of who says it, of whom it names, of neither", "find 0 0 1 0 0 = 0", "find 7 0 1 0 0 = 1",
            "find 7 1 0 0 0 = 2", "find 7 1 2 0 0 = 3", "find 7 0 1 1 0 = 4", "found 0 1 = 0", "denied 1 = 1", "denied 2 = 1",
            "denied 3 = 0", "denied 4 = 0");
        Calls.run("12: other clues deny nothing", "find 4 0 0 0 0 = 0", "find 2 0 9 0 0 = 1", "find 3 0 0 0 0 = 2",
            "find 5 0 0 5 0 = 3", "found 0 1", "found 1 1", "found 2 1", "denied 3 = 0");
    }

    private static void deniedAtTheEdges() {
        Calls.run("12: from the first tick to the last", "door 0 1", "door 1 2", "door 2 3", "door 3 4", "door 4 5",
            "door 5 6", "door 6 7", "find 0 1 7 0 0 = 0", "found 0 1", "find 5 1 0 6 0 = 1", "find 5 1 0 7 0 = 2",
            "find 5 1 0 9 0 = 3", "find 5 1 6 0 0 = 4", "denied 1 = 1", "denied 2 = 0", "denied 3 = 0", "denied 4 = 1",
            "find 0 1 7 9 0 = 5", "found 5 1", "denied 2 = 1", "find 5 1 5 2 0 = 6", "find 5 1 3 5 0 = 7", "denied 6 = 0",
            "denied 7 = 0", "find 5 1 2 5 0 = 8", "denied 8 = 1", "find 5 1 7 9 0 = 9", "find 6 1 7 9 0 = 10", "denied 9 = 0",
            "denied 10 = 1");
        Calls.run("12: nowhere else", "find 1 0 1 9 0", "find 1 0 2 9 0", "find 1 0 3 9 0", "find 1 0 4 9 0", "find 1 0 5 9 0",
            "find 1 0 6 9 0", "find 1 0 7 9 0 = 6", "found 0 1", "found 1 1", "found 2 1", "found 3 1", "found 4 1", "found 5 1",
            "find 6 0 0 9 0 = 7", "denied 7 = 0", "found 6 1", "denied 7 = 1", "find 5 0 0 0 0 = 8", "denied 8 = 0");
        Calls.run("12: by clues alone without a way", "find 0 0 1 3 0 = 0", "find 0 0 2 4 0 = 1", "find 5 0 5 9 0 = 2",
            "find 5 1 5 9 0 = 3", "found 0 1", "denied 2 = 1", "find 5 0 1 9 0 = 4", "denied 4 = 0", "found 1 1",
            "denied 4 = 1", "denied 3 = 0");
    }

    private static void sheet() {
        Calls.run("22: too small", "sheet -1 0 1 = -1", "sheet 0 -1 1 = -1", "sheet 0 0 -1 = -14", "sheet 0 0 MIN = -14",
            "drop 0 = -11");
        Calls.run("22: too large", "sheet 2 0 1 = -1", "sheet 0 2 1 = -1", "sheet 0 0 61 = -1", "sheet 0 0 MAX = -1",
            "drop 0 = -11");
        Calls.run("22: BAD ahead of SIZE", "sheet 2 0 -1 = -1", "sheet 0 2 -1 = -1", "sheet -1 0 MIN = -1");
        Calls.run("22: the fewest and the most", "sheet 0 0 0 = 0", "sheet 1 1 60 = 60", "item 0 0 0 0 = -13",
            "item 1 1 59 0 = 1", "item 1 1 60 0 = -13", "drop 0 = 0", "drop 1 = 60");
        Calls.run("22: a new row of another lane", "sheet 0 0 3 = 3", "sheet 0 1 4 = 4", "item 0 0 0 0 = -12",
            "item 0 1 3 0 = 1", "drop 0 = 4");
        Calls.run("22: a new row holds noughts", "sheet 0 1 60", "item 0 1 0 4", "item 0 1 1 3", "sheet 0 1 2 = 2",
            "sheet 0 1 60 = 60", "finds 0 1 0 1 = 1", "about 0 0 = 0", "about 0 1 = 0");
        Calls.run("22: refused, the row stays", "sheet 0 1 5", "item 0 1 0 4", "sheet 0 1 -1 = -14", "sheet 0 0 61 = -1",
            "finds 0 1 0 1 = 1", "about 0 0 = 4", "drop 0 = 5");
        Calls.run("23: too small, too large", "drop -1 = -1", "drop 2 = -1", "drop MIN = -1", "drop MAX = -1");
        Calls.run("23: nothing, something, nothing", "drop 1 = -11", "sheet 1 0 60", "drop 1 = 60", "drop 1 = -11",
            "sheet 1 0 0", "drop 1 = 0", "drop 1 = -11");
        Calls.run("23: one alone", "sheet 0 0 5", "sheet 1 0 6", "drop 0 = 5", "item 1 0 5 0 = 1", "drop 1 = 6");
    }

    private static void item() {
        Calls.run("24: too small", "sheet 0 0 5", "item -1 0 0 0 = -1", "item 0 -1 0 0 = -1", "item 0 0 -1 0 = -13",
            "item 0 0 MIN 0 = -13");
        Calls.run("24: too large", "sheet 0 0 5", "item 2 0 0 0 = -1", "item 0 2 0 0 = -1", "item 0 0 5 0 = -13",
            "item 0 0 4 0 = 1", "item 0 0 MAX 0 = -13");
        Calls.run("24: in order", "sheet 0 0 5", "item 2 0 5 0 = -1", "item 1 0 5 0 = -11", "item 1 2 5 0 = -1",
            "item 0 1 5 0 = -12", "item 0 1 -1 0 = -12", "item 0 0 5 0 = -13");
        Calls.run("24: dropped", "sheet 0 0 5", "drop 0", "item 0 0 0 0 = -11", "item 0 1 9 0 = -11");
        Calls.run("24: a byte goes round", "sheet 0 0 5", "item 0 0 0 260", "item 0 0 1 -254", "finds 0 0 0 1 = 1",
            "about 0 0 = 4", "about 0 1 = 2", "item 0 0 0 MIN", "item 0 0 1 1", "finds 0 0 0 1 = 2", "about 1 0 = 0",
            "item 0 0 0 128", "finds 0 0 0 1 = -2", "item 0 0 0 MAX", "finds 0 0 0 1 = -2", "item 0 0 0 1031",
            "finds 0 0 0 1 = 3", "about 2 0 = 7");
        Calls.run("24: an int does not", "sheet 0 1 5", "item 0 1 0 260", "finds 0 1 0 1 = -2", "item 0 1 0 MIN",
            "finds 0 1 0 1 = -2", "item 0 1 0 65536", "finds 0 1 0 1 = -2", "item 0 1 0 4", "finds 0 1 0 1 = 1");
        Calls.run("24: one item alone", "sheet 0 0 15", "sheet 1 0 15", "item 0 0 5 4", "finds 0 0 0 3 = 3",
            "finds 1 0 0 3 = 6", "about 0 0 = 0", "about 1 0 = 4", "about 2 0 = 0", "about 4 0 = 0");
    }

    private static void lastCall() {
        DeedDesk x = new DeedDesk();
        for (int call = 1; call < 512; call++) {
            Calls.call(x, call == 1 ? "find 4 0 0 0 0" : call % 2 == 0 ? "found 0 1" : "make 7");
        }
        Check.due("terms: the 512th call", x.suspects(), 14);
    }
}
