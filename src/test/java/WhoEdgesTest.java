/** The document's boundary cases, sentence by sentence: terms 2 and 3, and promises 13 to 21. */
public final class WhoEdgesTest {
    /** Places 0 - 1 - 2 in a row; 0 is the victim, at 2. */
    private static final String[] ROW = {"door 0 1", "door 1 2", "people 2", "deed 2 5 0"};

    public static void main(String[] args) {
        deedAtTheFirstAndLastTick();
        stillAndGone();
        takenNotBehindTheDeed();
        firstAndLastTick();
        whoCould();
        sayings();
        suspectsAndWith();
        way();
        doer();
        next();
        fewestAndLeast();
        fewestFull();
        claim();
        claimOrder();
        make();
        draws();
        Check.end();
    }

    private static void row(String what, String... calls) {
        String[] all = new String[ROW.length + calls.length];
        System.arraycopy(ROW, 0, all, 0, ROW.length);
        System.arraycopy(calls, 0, all, ROW.length, calls.length);
        Calls.run(what, all);
    }

    private static void deedAtTheFirstAndLastTick() {
        row("2: at tick 0 what lies there", "deed 2 0 0", "with 1 = 4", "with 0 = 0", "suspects = 2", "way 1 2 0 = 2",
            "way 1 2 1 = 1", "way 1 2 2 = 0", "way 1 2 9 = 0", "way 1 1 0 = -4");
        row("2: at tick 1 what lies one door off", "deed 2 1 0", "with 1 = 6", "way 1 1 0 = 1", "way 1 1 1 = 2",
            "way 1 2 0 = 1", "way 1 0 0 = -4");
        row("2: at tick 2 what lies two doors off", "deed 2 2 0", "with 1 = 7", "way 1 0 0 = 0", "way 1 0 1 = 1",
            "way 1 0 2 = 2", "way 1 0 3 = 1", "way 1 0 4 = 0");
        row("2: at tick 9", "deed 2 9 0", "with 1 = 7", "way 1 0 7 = 0", "way 1 0 8 = 1", "way 1 0 9 = 2");
        Calls.run("2: seven doors off", "door 0 1", "door 1 2", "door 2 3", "door 3 4", "door 4 5", "door 5 6", "door 6 7",
            "deed 7 6 0", "with 1 = 6", "deed 7 7 0", "with 1 = 7", "way 1 0 0 = 0", "way 1 0 6 = 6", "way 1 0 7 = 7",
            "way 1 0 8 = 6", "way 1 0 9 = 5");
        Calls.run("2: no door, no way but to stay", "with 1 = 1", "suspects = 15", "way 1 0 9 = 0", "lies 0 1", "suspects = 0",
            "lies 2 0", "with 1 = 4");
    }

    private static void stillAndGone() {
        row("2: STILL 0 tells nothing", "find 2 2 0 0 0", "found 0 1", "with 1 = 7");
        row("2: STILL at the deed's tick", "find 2 2 5 0 0", "found 0 1", "with 1 = 7", "way 1 2 4 = 1", "way 1 2 5 = 2");
        row("2: STILL behind the deed's tick", "find 2 2 6 0 0", "found 0 1", "with 1 = 3", "way 1 2 5 = -4");
        row("2: STILL, not found any more", "find 2 2 6 0 0", "found 0 1", "with 1 = 3", "found 0 0", "with 1 = 7");
        row("2: GONE, not found any more", "find 3 2 0 0 0", "found 0 1", "with 1 = 3", "found 0 0", "with 1 = 7");
        row("2: STILL 9, the deed at 9", "deed 2 9 0", "find 2 2 9 0 0", "found 0 1", "with 1 = 7", "find 2 1 9 0 0",
            "found 1 1", "with 1 = 5");
        row("2: STILL until the last tick on the way", "find 2 0 3 0 0", "found 0 1", "with 1 = 7", "find 2 0 4 0 0",
            "found 1 1", "with 1 = 6");
        row("2: GONE 0", "find 3 2 0 0 0", "found 0 1", "with 1 = 3");
        row("2: GONE 1", "find 3 2 1 0 0", "found 0 1", "with 1 = 7", "way 1 2 0 = 2", "way 1 2 1 = 1", "way 1 2 2 = 0",
            "find 1 1 2 0 0", "found 1 1", "with 1 = 3");
        row("2: GONE behind the deed tells nothing", "find 0 1 1 4 0", "find 2 2 3 0 0", "find 1 1 2 3 0", "found 0 1",
            "found 1 1", "found 2 1", "with 1 = 7", "find 3 2 6 0 0", "found 3 1", "with 1 = 7", "find 3 2 5 0 0", "found 4 1",
            "with 1 = 3");
        row("2: one tick is left, and none", "find 2 2 3 0 0", "find 3 2 4 0 0", "found 0 1", "found 1 1", "with 1 = 7",
            "way 1 2 3 = 2", "find 3 2 3 0 0", "found 2 1", "with 1 = 3", "found 2 0", "find 1 1 2 3 0", "found 3 1",
            "with 1 = 3");
        row("2: the first GONE and the last STILL, in any order", "find 3 2 1 0 0", "find 3 2 9 0 0", "found 0 1", "found 1 1",
            "way 1 2 0 = 2", "found 0 0", "way 1 2 0 = 0", "clear", "find 2 2 5 0 0", "find 2 2 0 0 0", "found 0 1",
            "found 1 1", "find 1 1 2 5 0", "with 1 = 7", "find 3 2 5 0 0", "found 3 1", "with 1 = 3");
        row("2: of another thing", "find 2 1 9 0 0", "find 3 0 0 0 0", "found 0 1", "with 1 = 5", "found 1 1", "with 1 = 4");
    }

    private static void takenNotBehindTheDeed() {
        row("2: reached behind the deed alone", "find 0 1 2 0 0", "found 0 1", "deed 2 1 0", "with 1 = 4", "deed 2 2 0",
            "with 1 = 6", "deed 2 3 0", "with 1 = 6", "deed 2 4 0", "with 1 = 7");
        row("2: not at the deed's tick itself", "lies 0 1", "find 0 1 1 6 0", "found 0 1", "find 0 1 2 4 0", "found 1 1",
            "find 2 0 4 0 0", "with 1 = 7", "found 2 1", "with 1 = 6");
    }

    private static void firstAndLastTick() {
        row("2: somewhere at tick 0", "find 0 1 7 0 0", "suspects = 2", "found 0 1", "suspects = 0");
        row("2: somewhere at tick 9", "find 0 1 7 9 0", "suspects = 2", "found 0 1", "suspects = 0");
        row("2: nowhere at tick 9", "find 1 1 0 9 0", "find 1 1 1 9 0", "find 1 1 2 9 0", "found 0 1", "found 1 1",
            "suspects = 2", "way 1 0 9 = 2", "found 2 1", "suspects = 0");
        row("2: nowhere at tick 0", "find 1 1 0 0 0", "find 1 1 1 0 0", "find 1 1 2 0 0", "found 0 1", "found 1 1",
            "suspects = 2", "way 1 0 0 = 2", "found 2 1", "suspects = 0");
        row("2: the victim at the first tick and the last", "find 0 0 0 0 0", "find 0 0 0 9 0", "found 0 1", "found 1 1",
            "suspects = 2", "deed 2 1 0", "suspects = 0", "deed 2 2 0", "suspects = 2", "deed 2 7 0", "suspects = 2",
            "deed 2 8 0", "suspects = 0");
        row("2: another without a way at tick 9", "people 3", "find 0 2 0 9 0", "find 0 2 7 9 0", "found 0 1", "suspects = 6",
            "found 1 1", "suspects = 0");
    }

    private static void whoCould() {
        row("2: the victim, or none", "suspects = 2", "deed 2 5 1", "suspects = 1", "deed 2 5 -1", "suspects = 3");
        row("2: NOT BY", "find 4 1 0 0 0", "find 4 0 0 0 0", "suspects = 2", "found 1 1", "suspects = 2", "found 0 1",
            "suspects = 0", "with 1 = 0", "way 1 2 5 = -4");
        row("2: the victim was not there", "find 1 0 2 5 0", "found 0 1", "suspects = 0", "deed 2 4 0", "suspects = 2",
            "deed 1 5 0", "suspects = 2");
        row("2: another was there, a tick off", "people 3", "find 0 2 2 4 0", "find 0 2 2 6 0", "found 0 1", "found 1 1",
            "suspects = 6", "find 0 2 2 5 0", "found 2 1", "suspects = 4");
        row("2: two others were there", "people 4", "find 0 2 2 5 0", "find 0 3 2 5 0", "found 0 1", "suspects = 4",
            "found 1 1", "suspects = 0");
        row("2: who can only be there", "people 3", "find 0 2 2 4 0", "find 1 2 1 5 0", "found 0 1", "found 1 1",
            "suspects = 4");
    }

    private static void sayings() {
        row("2: its own saying counts for nothing", "people 3", "find 5 1 7 0 0", "find 5 1 6 0 0", "found 0 1", "suspects = 6",
            "found 1 1", "suspects = 2", "find 5 0 7 0 0", "found 2 1", "suspects = 0");
        row("2: who says I WAS NOT", "people 3", "find 6 2 2 5 0", "found 0 1", "suspects = 6", "find 6 0 2 5 0", "found 1 1",
            "suspects = 0");
        row("2: I SAW of both", "people 4", "find 7 3 2 7 0", "found 0 1", "suspects = 10", "find 0 3 0 0 0", "found 1 1",
            "suspects = 8");
        row("2: whom I SAW names is no sayer", "people 3", "find 7 1 2 2 5", "found 0 1", "suspects = 2", "clear",
            "find 7 2 1 2 5", "found 0 1", "suspects = 4");
        row("2: I SAW at the first tick and the last", "people 3", "find 7 1 2 2 0", "find 7 1 2 2 9", "found 0 1", "found 1 1",
            "suspects = 6", "deed 2 1 0", "with 1 = 6", "with 2 = 4");
    }

    private static void suspectsAndWith() {
        row("13: nobody", "find 4 1 0 0 0", "found 0 1", "suspects = 0");
        row("13: all of two", "deed 2 5 -1", "suspects = 3");
        row("13: all of six", "people 6", "deed 2 5 -1", "suspects = 63", "find 4 5 0 0 0", "found 0 1", "suspects = 31");
        row("14: too small, too large", "with -1 = -1", "with 2 = -1", "with MIN = -1", "with MAX = -1");
        row("14: all, none", "with 1 = 7", "with 0 = 0", "deed 2 5 -1", "with 0 = 7", "people 6", "with 5 = 7", "with 6 = -1");
    }

    private static void way() {
        row("15: too small", "way -1 0 0 = -1", "way 1 -1 0 = -1", "way 1 0 -1 = -1", "way 0 -1 0 = -1", "way 0 0 -1 = -1");
        row("15: too large", "way 2 0 0 = -1", "way 1 3 0 = -1", "way 1 0 10 = -1", "way 0 3 0 = -1", "way 0 0 10 = -1");
        row("15: at the first tick and the last", "way 1 0 0 = 0", "way 1 2 9 = 0", "find 0 1 2 0 0", "find 0 1 2 9 0",
            "found 0 1", "found 1 1", "way 1 1 0 = 2", "way 1 1 9 = 2", "way 1 0 2 = 0", "deed 2 3 0", "way 1 0 0 = -4");
        row("15: who could not, with what", "way 0 0 0 = -4", "deed 2 1 0", "way 1 0 0 = -4", "way 1 1 0 = 1",
            "find 4 1 0 0 0", "found 0 1", "way 1 1 0 = -4", "way 1 1 9 = -4");
        row("15: the lesser first, though it is longer", "door 0 2 = 3", "way 1 2 3 = 0", "way 1 2 4 = 0", "way 1 2 5 = 2",
            "way 1 2 6 = 0", "way 1 1 0 = 0", "way 1 1 3 = 0", "way 1 1 4 = 1", "way 1 1 5 = 2", "lies 0 2", "way 1 0 4 = 0");
    }

    private static void doer() {
        row("16: one", "doer = 1", "deed 2 5 1", "doer = 0");
        row("16: none", "find 4 1 0 0 0", "found 0 1", "doer = -4");
        row("16: two", "deed 2 5 -1", "doer = -4", "find 4 0 0 0 0", "doer = -4", "found 0 1", "doer = 1");
        row("16: the last of six", "people 6", "find 4 1 0 0 0", "find 4 2 0 0 0", "find 4 3 0 0 0", "find 4 4 0 0 0",
            "found 0 1", "found 1 1", "found 2 1", "doer = -4", "found 3 1", "doer = 5");
    }

    private static void next() {
        row("17: no finds", "next = -4");
        row("17: all found", "find 2 0 0 0 0", "next = 0", "found 0 1", "next = -4", "found 0 0", "next = 0");
        row("17: it leaves nobody", "find 4 1 0 0 0", "next = -4", "find 2 0 0 0 0", "next = 1");
        row("17: nobody is left already", "find 4 1 0 0 0", "find 2 0 0 0 0", "found 0 1", "next = -4");
        row("17: all six are left", "people 6", "deed 2 5 -1", "find 2 0 0 0 0", "next = 0");
        row("17: of like ones the least", "people 4", "find 4 2 0 0 0", "find 4 1 0 0 0", "next = 0", "found 0 1", "next = 1");
        row("17: the fewest, one at least", "people 4", "find 2 0 0 0 0", "find 4 1 0 0 0", "find 5 3 2 5 0", "find 1 0 2 5 0",
            "next = 2", "found 2 1", "next = 0");
        row("17: the last of twenty", "people 4", "sheet 0 0 60", "item 0 0 0 2", "item 0 0 5 2", "item 0 0 10 2",
            "item 0 0 15 2", "finds 0 0 0 4", "finds 0 0 0 4", "finds 0 0 0 4", "finds 0 0 0 4 = 16", "finds 0 0 0 3 = 19",
            "next = 0", "find 4 3 0 0 0 = 19", "next = 19");
    }

    private static void fewestAndLeast() {
        row("18: no finds, one could", "fewest = 0", "least = 0");
        row("18: no finds, two could", "deed 2 5 -1", "fewest = -4", "least = -4");
        row("18: no finds, nobody could", "deed 7 5 -1", "fewest = -4", "least = -4");
        row("18: none of them", "people 3", "find 4 1 0 0 0", "fewest = 1", "find 4 2 0 0 0", "least = 1", "clear",
            "find 2 0 9 0 0", "find 1 0 2 5 0", "fewest = -4", "least = -4");
        row("18: found or not", "people 3", "find 4 1 0 0 0", "find 4 2 0 0 0", "found 0 1", "found 1 1", "suspects = 0",
            "fewest = 1", "least = 1", "found 0 0", "least = 1");
        row("19: the less as bits, not the first as they come", "people 4", "find 4 1 0 0 0", "find 4 2 0 0 0",
            "find 4 3 0 0 0", "least = 3", "clear", "find 4 1 0 0 0", "find 4 2 0 0 0", "find 4 2 0 0 0", "find 4 1 0 0 0",
            "fewest = 2", "least = 3");
        row("19: 1 and 2 ahead of 0 and 3", "people 3", "find 5 1 0 5 0", "find 0 2 0 3 0", "find 1 2 1 4 0", "find 4 2 0 0 0",
            "fewest = 1", "least = 8", "clear", "find 0 2 0 3 0", "find 0 1 0 3 0", "find 1 1 1 4 0", "find 1 2 1 4 0",
            "fewest = 2", "least = 6");
        row("18: the fewest come last", "people 4", "find 0 1 0 3 0", "find 1 1 1 4 0", "find 4 2 0 0 0", "fewest = 3",
            "least = 7", "find 4 3 0 0 0", "fewest = 2", "least = 12", "find 5 3 2 5 0", "fewest = 1", "least = 16");
        row("18: the fewest come first", "people 4", "find 5 3 2 5 0", "find 4 3 0 0 0", "find 4 2 0 0 0", "find 4 1 0 0 0",
            "fewest = 1", "least = 1");
        row("18: all five", "people 6", "deed 2 5 -1", "find 4 0 0 0 0", "find 4 1 0 0 0", "find 4 2 0 0 0", "find 4 3 0 0 0",
            "fewest = -4", "find 4 5 0 0 0", "fewest = 5", "least = 31");
    }

    private static void fewestFull() {
        row("18: twelve, thirteen", "people 4", "sheet 0 0 60", "item 0 0 0 2", "finds 0 0 0 1", "finds 0 0 0 1",
            "finds 0 0 0 1", "finds 0 0 0 1", "finds 0 0 0 1", "finds 0 0 0 1", "finds 0 0 0 1", "finds 0 0 0 1",
            "finds 0 0 0 1", "finds 0 0 0 1 = 10", "find 4 1 0 0 0 = 10", "find 4 3 0 0 0 = 11", "fewest = 2", "least = 3072",
            "find 4 2 0 0 0 = 12", "fewest = -3", "least = -3", "found 10 1", "found 11 1", "doer = 2", "fewest = -3",
            "clear = 13", "fewest = -4", "least = -4");
        row("18: FULL ahead of NONE", "people 4", "sheet 0 0 60", "finds 0 0 0 12 = 12", "fewest = -4", "least = -4",
            "finds 0 0 0 1 = 13", "fewest = -3", "least = -3");
        row("18: FULL ahead of 0", "sheet 0 0 60", "finds 0 0 0 12 = 12", "fewest = 0", "find 4 0 0 0 0", "fewest = -3");
    }

    private static void claim() {
        row("20: too small, too large", "claim -1 = -1", "claim 2 = -1", "claim MIN = -1", "claim MAX = -1");
        row("20: by no finds at all", "claim 0 = -4", "claim 1 = -2", "deed 7 5 0", "claim 1 = -4", "find 4 1 0 0 0",
            "found 0 1", "claim 1 = -4", "deed 2 5 0", "claim 1 = 0");
        row("20: by all", "find 2 0 0 0 0", "find 0 1 2 5 0", "found 0 1", "found 1 1", "claim 1 = -2");
        row("20: one that is not found", "find 4 1 0 0 0", "claim 1 = -2");
        row("20: with those ahead of it", "find 0 1 0 3 0", "find 1 1 1 4 0", "found 0 1", "claim 1 = -2", "found 1 1",
            "claim 1 = 1", "found 0 0", "claim 1 = -2", "found 0 1", "claim 1 = 0");
        row("20: the last of twenty", "sheet 0 0 60", "item 0 0 0 4", "item 0 0 5 4", "finds 0 0 0 2", "finds 0 0 0 2",
            "finds 0 0 0 2", "finds 0 0 0 2", "finds 0 0 0 2", "finds 0 0 0 2", "finds 0 0 0 2", "finds 0 0 0 2",
            "finds 0 0 0 2", "finds 0 0 0 1 = 19", "find 4 1 0 0 0 = 19", "found 19 1", "claim 1 = 19", "found 0 1",
            "claim 1 = 19");
    }

    private static void claimOrder() {
        row("20: not as they come, but as they were found", "find 4 1 0 0 0", "find 4 1 0 0 0", "find 4 1 0 0 0", "found 1 1",
            "found 2 1", "found 0 1", "claim 1 = 1", "found 1 0", "claim 1 = 2", "found 1 1", "claim 1 = 2", "found 2 0",
            "claim 1 = 0", "found 0 0", "claim 1 = 1", "found 1 0", "claim 1 = -2");
        row("20: found latest", "find 4 1 0 0 0", "find 4 1 0 0 0", "found 0 1 = 0", "found 1 1 = 0", "claim 1 = 0",
            "found 0 1 = 1", "claim 1 = 1");
        row("20: refused, the order stays", "find 4 1 0 0 0", "find 4 1 0 0 0", "found 1 1", "found 0 1", "found 2 1 = -1",
            "found -1 0 = -1", "claim 1 = 1");
        row("20: none is found any more", "find 4 1 0 0 0", "found 0 1", "clear = 1", "claim 1 = -2", "find 4 1 0 0 0",
            "find 4 1 0 0 0", "claim 1 = -2", "found 1 1", "found 0 1", "claim 1 = 1");
    }

    private static void make() {
        Calls.run("21: in place of what is full", "people 6", "deed 6 9 5", "door 0 2", "door 0 3", "door 0 4", "door 0 5",
            "door 0 6", "door 1 3", "door 1 4", "door 1 5", "door 1 6", "door 1 7", "door 2 4", "door 2 5 = 12", "sheet 0 0 60",
            "finds 0 0 0 12", "finds 0 0 0 8 = 20", "found 19 1", "found 0 1", "make 0 = 2", "told 0 = 3", "told 1 = 7",
            "told 2 = 0", "told 3 = 4", "told 4 = 10", "door 0 1 = -2", "door 7 0 = -2", "about 15 0 = 6", "about 16 0 = -1",
            "about 0 5 = 0", "about 15 5 = 0", "claim 2 = -2", "find 4 4 0 0 0 = -1", "finds 0 0 0 4 = 20",
            "find 4 1 0 0 0 = -3", "drop 0 = 60", "lies 0 0 = 2", "lies 1 0 = 7", "lies 2 0 = 5");
        Calls.run("21: of what was found none counts", "find 4 1 0 0 0", "found 0 1", "make 0 = 2", "suspects = 14",
            "claim 1 = -2", "found 4 1 = 0", "claim 1 = 4", "make 0 = 2", "claim 1 = -2", "about 4 5 = 0");
        Calls.run("21: sheets, held or not, stay", "sheet 1 1 7", "make MAX", "drop 0 = -11", "drop 1 = 7");
        Calls.run("21: any number", "make 0 = 2", "make 1 = 1", "make 7 = 3", "make -1 = 3", "make MIN", "told 3 = 4",
            "make MAX", "told 3 = 4");
    }

    /** The number as it goes round, in 64 bits and told apart from the sign. */
    private static long drawn(int number, int times) {
        long x = number & 0xffffffffL;
        for (int k = 0; k < times; k++) {
            x = (x * 1103515245L + 12345L) % (1L << 32);
        }
        return x >> 16;
    }

    /** Draws 1 to 4 tell the two doors more, 5 to 7 where the things lie, 8 where 0 is at first. */
    private static void draws() {
        int[] numbers = {0, 1, -1, 7, 65535, 65536, -65536, 1 << 30, 12345, -12345, Integer.MIN_VALUE, Integer.MIN_VALUE + 1,
            Integer.MAX_VALUE, Integer.MAX_VALUE - 1};
        for (int number : numbers) {
            DeedDesk x = new DeedDesk();
            x.make(number);
            int doors = 8;
            for (int door = 0; door < 2; door++) {
                int a = (int) (drawn(number, 1 + 2 * door) % 8);
                int b = (int) (a + 2 + drawn(number, 2 + 2 * door) % 5) % 8;
                Check.due("3: case " + number + " door " + a + " " + b, x.door(a, b), DeedDesk.NOT);
                doors++;
            }
            Check.holds("3: case " + number + " has " + x.told(4), x.told(4) == doors || x.told(4) == doors - 1);
            for (int thing = 0; thing < 3; thing++) {
                Check.due("3: case " + number + " thing " + thing, x.lies(thing, 0), drawn(number, 5 + thing) % 8);
            }
        }
    }
}
