/** Calls written as text, "find 0 1 7 9 0" or "found 3 1", so that rows of them can be held against due answers. */
final class Calls {
    private Calls() {
    }

    /** A run on a new object: "call = answer" is held against the answer, a call alone must answer 0 or above. */
    static void run(String what, String... lines) {
        DeedDesk x = new DeedDesk();
        for (String line : lines) {
            String[] parts = line.split(" = ");
            int got = call(x, parts[0]);
            if (parts.length > 1) {
                Check.due(what + ": " + parts[0], got, number(parts[1]));
            } else {
                Check.holds(what + ": " + line + " answered " + got, got >= 0);
            }
        }
    }

    static int call(DeedDesk x, String call) {
        String[] words = call.split(" ");
        int[] n = new int[words.length - 1];
        for (int k = 0; k < n.length; k++) {
            n[k] = number(words[k + 1]);
        }
        switch (n.length) {
            case 0:
                return ofNone(x, words[0]);
            case 1:
                return ofOne(x, words[0], n[0]);
            default:
                return ofMore(x, words[0], n);
        }
    }

    private static int number(String word) {
        return word.equals("MIN") ? Integer.MIN_VALUE : word.equals("MAX") ? Integer.MAX_VALUE : Integer.parseInt(word);
    }

    private static int ofNone(DeedDesk x, String name) {
        switch (name) {
            case "clear":
                return x.clear();
            case "suspects":
                return x.suspects();
            case "doer":
                return x.doer();
            case "next":
                return x.next();
            case "fewest":
                return x.fewest();
            case "least":
                return x.least();
            default:
                throw new IllegalArgumentException(name);
        }
    }

    private static int ofOne(DeedDesk x, String name, int n) {
        switch (name) {
            case "people":
                return x.people(n);
            case "told":
                return x.told(n);
            case "denied":
                return x.denied(n);
            case "with":
                return x.with(n);
            case "claim":
                return x.claim(n);
            case "make":
                return x.make(n);
            case "drop":
                return x.drop(n);
            default:
                throw new IllegalArgumentException(name);
        }
    }

    private static int ofMore(DeedDesk x, String name, int[] n) {
        switch (name) {
            case "door":
                return x.door(n[0], n[1]);
            case "lies":
                return x.lies(n[0], n[1]);
            case "deed":
                return x.deed(n[0], n[1], n[2]);
            case "find":
                return x.find(n[0], n[1], n[2], n[3], n[4]);
            case "finds":
                return x.finds(n[0], n[1], n[2], n[3]);
            case "found":
                return x.found(n[0], n[1] == 1);
            case "about":
                return x.about(n[0], n[1]);
            case "way":
                return x.way(n[0], n[1], n[2]);
            case "sheet":
                return x.sheet(n[0], n[1], n[2]);
            case "item":
                return x.item(n[0], n[1], n[2], n[3]);
            default:
                throw new IllegalArgumentException(name);
        }
    }
}
