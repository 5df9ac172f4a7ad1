/** Texts of towns that are good or have a fault, and tests of one who stays by them. */
final class Texts {
    static final String SEVEN = "place a;place b;place c;place d;place e;place f;place g;";
    static final String TWELVE = SEVEN + "road a to b;road a to c;road a to d;road a to e;road a to f;road a to g;"
            + "road b to c;road b to d;road b to e;road b to f;road b to g;road c to d;";
    static final String SIX = "place a;person p at a kind 1;person q at a kind 1;person r at a kind 1;"
            + "person s at a kind 1;person t at a kind 1;person u at a kind 1;";
    static final String EIGHT = "place a;frame 1 a 1;frame 2 a 1;frame 3 a 1;frame 4 a 1;"
            + "frame 5 a 1;frame 6 a 1;frame 7 a 1;frame 8 a 1;";
    static final String[] OWN = {"place", "road", "to", "person", "at", "kind", "watch", "frame", "stays",
        "goes", "rain", "step", "day", "here", "shown", "there", "far", "if", "or", "and", "not", "all", "min", "max"};

    private Texts() {
    }

    static SilentReel good(String text, int statements) {
        SilentReel x = new SilentReel();
        Check.due("town() of " + text, Check.town(x, text), statements);
        Check.due("fault(0) of " + text, x.fault(0), 0);
        Check.due("fault(1) of " + text, x.fault(1), -1);
        Check.due("status(1) of " + text, x.status(1), 0);
        return x;
    }

    static void bad(String text, int fault, int at) {
        SilentReel x = new SilentReel();
        Check.due("town() of " + text, Check.town(x, text), -1);
        Check.due("fault(0) of " + text, x.fault(0), fault);
        Check.due("fault(1) of " + text, x.fault(1), at);
        Check.due("status(1) of " + text, x.status(1), 1);
    }

    /** The fault is at the sign that is marked by a bar, which is not in the text. */
    static void marked(String text, int fault) {
        int at = text.indexOf('|');
        bad(text.substring(0, at) + text.substring(at + 1), fault, at);
    }

    /** He stays in a where the test holds, else he goes to b, which is farther from where he began. */
    static void holds(String test, boolean due) {
        SilentReel x = Check.of("place a;place b;road a to b;person p at a kind 3;stays " + test + ";goes far;");
        Check.due(test, x.where(0, 1) == 0, due);
    }

    static void holds(String test) {
        holds(test, true);
        holds("not " + test, false);
    }
}
