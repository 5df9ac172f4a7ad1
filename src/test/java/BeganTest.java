/** Promises 21 (see) and 22 (began). */
public final class BeganTest {
    private static final String ROW = "place a;place b;place c;road a to b;road b to c;";

    public static void main(String[] args) {
        see();
        seeRefused();
        began();
        beganAmongOthers();
        beganByDistance();
        telling();
        howLong();
        Check.finish();
    }

    private static void see() {
        SilentReel x = Check.of(ROW + "person p at a kind 1;stays all;");
        Check.put(x, 1, 0, 0);
        Check.due("see() of a row", x.see(), 1);
        Check.due("has(8)", x.has(8), 1);
        int[] most = new int[48];
        for (int k = 0; k < 16; k++) {
            most[3 * k] = k % 8 + 1;
            most[3 * k + 1] = 2;
            most[3 * k + 2] = 1;
        }
        Check.put(x, most);
        Check.due("see() of 16 rows", x.see(), 16);
        Check.due("has(8) of 16", x.has(8), 16);
        Check.due("began(0, 0) by 16", x.began(0, 0), 4);
        Check.put(x, 8, 2, 255);
        Check.due("see() of 255 people", x.see(), 1);
        Check.due("began(0, 0) by 255", x.began(0, 0), 0);
        Check.put(x, 8, 2, 1, 8, 2, 1, 8, 2, 0);
        Check.due("see() of rows alike", x.see(), 3);
        Check.due("began(0, 0) by rows that can't be", x.began(0, 0), 0);
        Check.due("status(5)", x.status(5), 0);
    }

    private static void refused(SilentReel x, int... bytes) {
        int ahead = x.status(5);
        Check.put(x, bytes);
        Check.due("see() of " + java.util.Arrays.toString(bytes), x.see(), -1);
        Check.due("status(5)", x.status(5), ahead + 1);
        Check.due("has(8)", x.has(8), 1);
        Check.due("began(0, 0)", x.began(0, 0), 6);
    }

    private static void seeRefused() {
        SilentReel x = Check.of(ROW + "person p at a kind 1;stays all;");
        Check.put(x, 1, 0, 0);
        x.see();
        refused(x);
        refused(x, 1);
        refused(x, 1, 0);
        refused(x, 1, 0, 0, 1);
        refused(x, 1, 0, 0, 1, 0);
        refused(x, 0, 0, 0);
        refused(x, 9, 0, 0);
        refused(x, 255, 0, 0);
        refused(x, 1, 3, 0);
        refused(x, 1, 255, 0);
        refused(x, 1, 2, 1, 1, 3, 1);
        refused(x, 1, 2, 1, 0, 2, 1);
        int[] many = new int[51];
        for (int k = 0; k < 51; k += 3) {
            many[k] = 1;
        }
        refused(x, many);
        SilentReel none = new SilentReel();
        Check.put(none, 1, 0, 0);
        Check.due("see() without places", none.see(), -1);
    }

    private static void began() {
        SilentReel x = Check.of(ROW + "person p at a kind 1;stays all;");
        Check.due("began(0, 0) with nothing seen", x.began(0, 0), 7);
        Check.due("began(1, 0)", x.began(1, 0), -1);
        Check.due("began(-1, 0)", x.began(-1, 0), -1);
        Check.due("began(0, -1)", x.began(0, -1), -1);
        Check.due("began(0, 4)", x.began(0, 4), -1);
        Check.due("began(MAX, 0)", x.began(Integer.MAX_VALUE, 0), -1);
        Check.due("began(0, MIN)", x.began(0, Integer.MIN_VALUE), -1);
        Check.put(x, 4, 1, 1);
        x.see();
        Check.due("began(0, 0) seen in b", x.began(0, 0), 2);
        Check.put(x, 4, 0, 1, 5, 0, 0);
        x.see();
        Check.due("began(0, 0) seen to go", x.began(0, 0), 0);
        for (int what = 1; what <= 3; what++) {
            Check.due("began(0, " + what + ") without any", x.began(0, what), -1);
        }
        Check.due("where(0, 0) stays", x.where(0, 0), 0);
    }

    private static void beganAmongOthers() {
        SilentReel x = Check.of(ROW + "person p at a kind 1;person q at b kind 1;stays all;");
        Check.put(x, 1, 1, 2);
        x.see();
        Check.due("began(0, 0) two in b", x.began(0, 0), 2);
        Check.due("began(1, 0) two in b", x.began(1, 0), 0);
        Check.put(x, 1, 1, 1);
        x.see();
        Check.due("began(0, 0) one in b", x.began(0, 0), 5);
        Check.due("began(1, 0) one in b", x.began(1, 0), 2);
        x.send(1, 2);
        Check.due("began(0, 0) when q is in c", x.began(0, 0), 2);
        Check.due("began(1, 0) when q is in c", x.began(1, 0), 2);
    }

    /** How far it is is told from where he may have begun, not from where he is. */
    private static void beganByDistance() {
        SilentReel x = Check.of(ROW + "person p at a kind 1;goes 0-far;");
        Check.put(x, 8, 2, 1);
        x.see();
        Check.due("began(0, 0)", x.began(0, 0), 4);
    }

    private static void telling(SilentReel x, int bits, int step, int place, int left) {
        Check.due("began(0, 0)", x.began(0, 0), bits);
        Check.due("began(0, 1)", x.began(0, 1), step);
        Check.due("began(0, 2)", x.began(0, 2), place);
        Check.due("began(0, 3)", x.began(0, 3), left);
    }

    private static void telling() {
        SilentReel x = Check.of(ROW + "person p at a kind 1;stays all;");
        telling(x, 7, 1, 0, 2);
        Check.put(x, 3, 0, 0);
        x.see();
        telling(x, 6, 1, 1, 1);
        Check.put(x, 3, 2, 1);
        x.see();
        telling(x, 4, 1, 0, 1);
        // q goes where most are: from b to a if p is in a, else he stays; so b has 0, 2 or 1
        String two = ROW + "person p at a kind 1;person q at b kind 2;goes there;";
        telling(Check.of(two + "stays kind=1;"), 7, 1, 1, 1);
        telling(Check.of(two + "stays kind=1 or step<4;"), 7, 4, 1, 1);
        telling(Check.of(two + "stays kind=1 or step<8;"), 7, 8, 1, 1);
        // six in a, or five: the row of what is alike must have room for six
        SilentReel six = Check.of(ROW + "person p at a kind 1;person q at a kind 1;person r at a kind 1;"
                + "person s at a kind 1;person t at a kind 1;person u at a kind 1;stays all;");
        telling(six, 7, 1, 0, 2);
        SilentReel late = Check.of(two + "stays kind=1 or step<4;");
        Check.put(late, 1, 0, 0);
        late.see();
        telling(late, 6, 1, 1, 1);
    }

    private static void howLong() {
        SilentReel x = Check.of(ROW + "person p at a kind 1;stays all;");
        Check.put(x, 1, 0, 0);
        x.see();
        x.send(0, 1);
        Check.due("has(8) behind an act", x.has(8), 1);
        x.undo();
        Check.due("has(8) behind undo()", x.has(8), 1);
        Check.due("began(0, 0) behind undo()", x.began(0, 0), 6);
        x.days(1);
        Check.due("began(0, 0) behind a day", x.began(0, 0), 6);
        Check.town(x, "xx");
        Check.due("has(8) behind a fault", x.has(8), 1);
        Check.town(x, ROW + "person p at a kind 1;stays all;");
        Check.due("has(8) behind town()", x.has(8), 0);
        Check.due("began(0, 0) behind town()", x.began(0, 0), 7);
    }
}
