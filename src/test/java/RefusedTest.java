/** Terms, the answers below 0: BAD ahead of all others, then the first that a call names; and they change nothing. */
public final class RefusedTest {
    private static final String[] FRESH = {};
    private static final String[] RICH = {"people 6", "door 0 1", "door 1 2", "door 2 3", "door 3 4", "door 0 7", "door 6 7",
        "lies 0 7", "lies 1 2", "lies 2 3", "deed 3 6 5", "find 0 1 0 2 0", "find 1 2 3 6 0", "find 2 1 4 0 0",
        "find 3 0 6 0 0", "find 4 3 0 0 0", "find 5 4 6 1 0", "find 6 4 7 0 0", "find 7 3 4 0 5", "find 5 4 1 0 0",
        "find 0 0 7 9 0", "find 0 5 3 5 0", "find 7 0 5 2 5", "found 4 1", "found 9 1", "found 1 1", "found 6 1", "found 0 1",
        "sheet 0 0 25", "item 0 0 0 7", "item 0 0 1 1", "item 0 0 5 4", "item 0 0 10 2", "item 0 0 15 3", "item 0 0 20 8",
        "sheet 1 1 45"};
    private static final String[] WHOLE = {"door 0 1", "door 1 2", "door 2 3", "door 3 4", "door 4 5", "door 5 6", "door 6 7",
        "door 7 0", "door 0 2", "door 0 3", "door 0 4", "door 0 5", "deed 5 9 0", "find 4 1 0 0 0", "find 4 1 0 0 0",
        "find 4 1 0 0 0", "find 1 0 5 9 0", "find 5 1 1 1 0", "find 5 1 2 2 0", "find 5 1 3 3 0", "find 5 2 1 4 0",
        "find 5 2 2 5 0", "find 5 2 3 6 0", "find 5 3 1 7 0", "find 5 3 2 8 0", "find 2 0 0 0 0", "find 2 1 0 0 0",
        "find 2 2 0 0 0", "find 3 0 9 0 0", "find 3 1 9 0 0", "find 3 2 9 0 0", "find 4 1 0 0 0", "find 7 2 1 0 0",
        "found 19 1", "found 0 1", "found 12 1", "sheet 1 1 10", "item 1 1 5 7"};

    public static void main(String[] args) {
        for (String[] built : new String[][] {FRESH, RICH, WHOLE}) {
            all(built, DeedDesk.BAD, "people -1", "people 0", "people 1", "people 7", "people MIN", "people MAX", "door -1 0",
                "door 8 0", "door 0 -1", "door 0 8", "door 3 3", "door MIN 1", "door 1 MAX", "lies -1 0", "lies 3 0",
                "lies 0 -1", "lies 0 8", "lies MAX 0", "lies 0 MIN", "deed -1 0 -1", "deed 8 0 -1", "deed 0 -1 -1",
                "deed 0 10 -1", "deed 0 0 -2", "deed 0 0 6", "deed MAX 0 0", "deed 0 MIN 0", "deed 0 0 MAX", "told -1",
                "told 5", "told MIN", "told MAX", "found -1 1", "found 20 1", "found MAX 0", "found MIN 1", "found 32 1",
                "about -1 0", "about 20 0", "about 0 -1", "about 0 6", "about MIN 0", "about 0 MAX", "denied -1",
                "denied 20", "denied MAX", "denied MIN", "with -1", "with 6", "with MAX", "with 32", "way -1 0 0",
                "way 6 0 0", "way 1 -1 0", "way 1 3 0", "way 1 0 -1", "way 1 0 10", "way MIN 0 0", "way 1 MAX 0",
                "way 1 0 MIN", "claim -1", "claim 6", "claim MIN", "claim 32");
            badFinds(built);
            badSheets(built);
        }
        fresh();
        rich();
        whole();
        asked(RICH);
        asked(WHOLE);
        Check.end();
    }

    private static void badFinds(String[] built) {
        all(built, DeedDesk.BAD, "find -1 0 0 0 0", "find 8 0 0 0 0", "find MIN 0 0 0 0", "find MAX 0 0 0 0",
            "find 2 -1 0 0 0", "find 2 3 0 0 0", "find 2 0 -1 0 0", "find 2 0 10 0 0", "find 3 -1 0 0 0", "find 3 3 0 0 0",
            "find 3 0 -1 0 0", "find 3 0 10 0 0", "find 4 -1 0 0 0", "find 4 6 0 0 0", "find 7 -1 0 0 0", "find 7 6 0 0 0",
            "find 7 0 -1 0 0", "find 7 0 6 0 0", "find 7 0 1 -1 0", "find 7 0 1 8 0", "find 7 0 1 0 -1", "find 7 0 1 0 10",
            "find 7 1 1 0 0", "find 7 0 0 0 0");
        for (int kind : new int[] {0, 1, 5, 6}) {
            for (String numbers : new String[] {"-1 0 0", "6 0 0", "0 -1 0", "0 8 0", "0 0 -1", "0 0 10", "MAX 0 0", "0 MIN 0"}) {
                all(built, DeedDesk.BAD, "find " + kind + " " + numbers + " 0");
            }
        }
    }

    private static void badSheets(String[] built) {
        all(built, DeedDesk.BAD, "sheet -1 0 1", "sheet 2 0 1", "sheet 0 -1 1", "sheet 0 2 1", "sheet 0 0 61", "sheet 1 1 MAX",
            "sheet 2 0 -1", "sheet 0 2 -1", "sheet -1 2 -1", "drop -1", "drop 2", "drop MIN", "drop MAX", "item -1 0 0 1",
            "item 2 0 0 1", "item 0 -1 0 1", "item 0 2 0 1", "item 2 0 -1 1", "item 1 2 60 1", "finds -1 0 0 0",
            "finds 2 0 0 0", "finds 0 -1 0 0", "finds 0 2 0 0", "finds 0 0 0 -1", "finds 0 0 0 13", "finds 0 0 MAX MIN",
            "finds 1 0 0 13", "finds 1 1 -1 13", "finds 1 1 60 -1", "finds 0 0 20 13");
    }

    private static void fresh() {
        all(FRESH, DeedDesk.BAD, "found 0 1", "about 0 0", "denied 0", "with 4", "way 4 0 0", "claim 4", "deed 0 0 4",
            "find 0 4 0 0 0", "find 4 4 0 0 0", "find 7 0 4 0 0");
        all(FRESH, DeedDesk.NOT, "claim 0", "claim 3");
        all(FRESH, DeedDesk.NONE, "way 0 1 0", "way 3 2 9", "doer", "next", "fewest", "least");
        all(FRESH, DeedDesk.NULL, "drop 0", "drop 1", "item 0 0 0 1", "item 1 1 0 1", "item 0 1 -1 1", "item 1 0 60 1",
            "finds 0 0 0 0", "finds 1 1 0 1", "finds 0 1 -1 1", "finds 1 0 MAX 12");
        all(FRESH, DeedDesk.SIZE, "sheet 0 0 -1", "sheet 1 1 -1", "sheet 0 1 MIN");
    }

    private static void rich() {
        all(RICH, DeedDesk.BAD, "found 12 1", "about 12 0", "denied 12");
        all(RICH, DeedDesk.NOT, "people 2", "people 5", "door 0 1", "door 1 0", "door 7 6", "claim 1", "claim 4",
            "finds 0 0 15 2", "finds 0 0 20 1", "finds 0 0 0 5");
        all(RICH, DeedDesk.FULL, "finds 1 1 0 9");
        all(RICH, DeedDesk.NONE, "claim 5", "doer", "way 5 0 0", "way 3 0 0", "way 2 0 0");
        all(RICH, DeedDesk.CAST, "denied 0", "denied 1", "denied 2", "denied 3", "denied 4", "denied 9", "item 0 1 0 1",
            "item 1 0 0 1", "item 0 1 -1 1", "item 1 0 45 1", "finds 0 1 0 0", "finds 1 0 0 1", "finds 0 1 20 1",
            "finds 0 1 -1 1", "finds 1 0 45 12");
        all(RICH, DeedDesk.INDEX, "item 0 0 -1 1", "item 0 0 25 1", "item 1 1 45 1", "item 1 1 MAX 1", "item 1 1 MIN 1",
            "finds 0 0 -1 0", "finds 0 0 26 0", "finds 0 0 20 2", "finds 0 0 21 1", "finds 1 1 1 9", "finds 1 1 0 10",
            "finds 1 1 MAX 12", "finds 1 1 MIN 0");
        all(RICH, DeedDesk.SIZE, "sheet 0 0 -1", "sheet 0 1 -1", "sheet 1 1 MIN");
    }

    private static void whole() {
        all(WHOLE, DeedDesk.NOT, "people 2", "people 3", "door 0 1", "door 5 0", "finds 1 1 5 1", "finds 1 1 0 2");
        all(WHOLE, DeedDesk.FULL, "door 0 6", "door 3 7", "find 0 0 0 0 0", "find 7 0 1 7 9", "finds 1 1 0 1", "fewest",
            "least");
        all(WHOLE, DeedDesk.NONE, "doer", "claim 0", "way 1 0 0", "way 0 0 9");
        all(WHOLE, DeedDesk.NULL, "drop 0", "finds 0 0 0 1", "finds 0 1 99 12", "item 0 0 0 0");
        all(WHOLE, DeedDesk.CAST, "denied 0", "denied 18", "finds 1 0 0 1", "finds 1 0 5 1");
        all(WHOLE, DeedDesk.INDEX, "finds 1 1 6 1", "finds 1 1 5 2", "finds 1 1 -1 1");
    }

    /** What only asks changes nothing either, and answers alike once more. */
    private static void asked(String[] built) {
        String before = seen(made(built));
        for (String call : new String[] {"told 0", "about 0 5", "denied 5", "denied 11", "suspects", "with 1", "with 0",
            "way 2 0 9", "way 1 1 0", "doer", "next", "fewest", "least", "claim 1", "claim 3", "finds 1 1 0 0"}) {
            DeedDesk x = made(built);
            int once = Calls.call(x, call);
            Check.due("once more " + call, Calls.call(x, call), once);
            Check.holds("asked " + call + " changed something", seen(x).equals(before));
        }
    }

    private static void all(String[] built, int due, String... calls) {
        String before = seen(made(built));
        for (String call : calls) {
            DeedDesk x = made(built);
            String what = (built == FRESH ? "fresh: " : built == RICH ? "rich: " : "whole: ") + call;
            Check.due(what, Calls.call(x, call), due);
            Check.holds(what + " changed something", seen(x).equals(before));
        }
    }

    private static DeedDesk made(String[] built) {
        DeedDesk x = new DeedDesk();
        for (String call : built) {
            Check.holds(call + " is no good", Calls.call(x, call) >= 0);
        }
        return x;
    }

    /** All that can be seen of an object; it is of no more use then. */
    private static String seen(DeedDesk x) {
        StringBuilder s = new StringBuilder();
        for (int what = 0; what < 5; what++) {
            s.append(x.told(what)).append(' ');
        }
        seenFinds(x, s);
        seenPeople(x, s);
        s.append("| ").append(x.suspects()).append(' ').append(x.next()).append(' ').append(x.least()).append(" | ");
        for (int thing = 0; thing < 3; thing++) {
            s.append(x.lies(thing, 0)).append(' ');
        }
        for (int a = 0; a < 8; a++) {
            for (int b = a + 1; b < 8; b++) {
                s.append(x.door(a, b)).append(' ');
            }
        }
        seenSheets(x, s);
        return s.toString();
    }

    private static void seenFinds(DeedDesk x, StringBuilder s) {
        for (int find = 0; find < 20 && x.about(find, 0) >= 0; find++) {
            s.append("| ").append(x.denied(find)).append(' ');
            for (int what = 0; what < 6; what++) {
                s.append(x.about(find, what)).append(' ');
            }
        }
    }

    private static void seenPeople(DeedDesk x, StringBuilder s) {
        for (int who = 0; who < 6; who++) {
            s.append("| ").append(x.with(who)).append(' ').append(x.claim(who)).append(' ');
            for (int thing = 0; thing < 3; thing++) {
                s.append(x.way(who, thing, 0)).append(' ').append(x.way(who, thing, 5)).append(' ');
            }
        }
    }

    private static void seenSheets(DeedDesk x, StringBuilder s) {
        s.append("| ").append(x.clear()).append(" | ");
        for (int sheet = 0; sheet < 2; sheet++) {
            for (int lane = 0; lane < 2; lane++) {
                for (int at = 0; at < 45; at += 5) {
                    s.append(x.finds(sheet, lane, at, 1)).append(' ');
                }
            }
            s.append(x.drop(sheet)).append(' ');
        }
        seenFinds(x, s);
    }
}
