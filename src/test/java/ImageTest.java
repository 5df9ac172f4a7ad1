import java.util.Arrays;

/** Promises 32 (image), 33 (octet), 34 (on), 35 (status). */
public final class ImageTest {
    private static final String TOWN = "place a;place b;place c;road a to b;road b to c;person p at a kind 1;"
            + "person q at c kind 2;watch q;frame 1 b 2;frame 8 c 6;stays all;rain 30;";

    public static void main(String[] args) {
        image();
        octet();
        on();
        onAtTheEdges();
        onRefused();
        onWithoutPeople();
        status();
        Check.finish();
    }

    /** Bytes with the last one that proves them. */
    private static int[] proved(int... bytes) {
        int proof = 193;
        for (int octet : bytes) {
            proof = (5 * proof + octet) % 251;
        }
        int[] all = Arrays.copyOf(bytes, bytes.length + 1);
        all[bytes.length] = proof;
        return all;
    }

    private static void written(SilentReel x, int... bytes) {
        int[] due = proved(bytes);
        Check.due("image()", x.image(), due.length);
        for (int k = 0; k < due.length; k++) {
            Check.due("octet(" + k + ")", x.octet(k), due[k]);
        }
        Check.due("octet behind it", x.octet(due.length), -1);
    }

    private static void image() {
        written(new SilentReel(), 0, 0, 0);
        SilentReel x = Check.of(TOWN);
        written(x, 0, 0, 0, 0, 2, 1, 2, 1, 1, 2, 8, 2, 6);
        x.send(0, 1);
        x.watch(0, 1);
        x.cut(0);
        written(x, 0, 0, 1, 1, 2, 1, 1, 8, 2, 6);
        for (int k = 0; k < 8; k++) {
            x.days(40);
        }
        written(x, 1, 64, 1, 1, 2, 1, 0);
        SilentReel most = Check.of("place a;person p at a kind 1;person q at a kind 1;person r at a kind 1;"
                + "person s at a kind 1;person t at a kind 1;person u at a kind 1;frame 1 a 6;frame 2 a 6;"
                + "frame 3 a 6;frame 4 a 6;frame 5 a 6;frame 6 a 6;frame 7 a 6;frame 8 a 6;");
        Check.due("the longest image()", most.image(), 40);
        Check.due("octet(39) is there", most.octet(39) >= 0, true);
    }

    private static void octet() {
        SilentReel x = Check.of(TOWN);
        Check.due("octet(0) ahead of any", x.octet(0), -1);
        x.image();
        x.send(0, 2);
        Check.due("octet(2): of the latest image(), not of now", x.octet(2), 0);
        for (int odd : new int[] {Integer.MIN_VALUE, -1, 14, 15, 40, 41, Integer.MAX_VALUE}) {
            Check.due("octet(" + odd + ")", x.octet(odd), -1);
        }
        x.cut(0);
        x.cut(0);
        x.image();
        Check.due("octet(8) of a shorter one", x.octet(8), -1);
        Check.due("octet(2) of the new one", x.octet(2), 2);
    }

    private static boolean onBy(SilentReel x, int... bytes) {
        Check.put(x, bytes);
        return x.on();
    }

    private static void on() {
        SilentReel x = Check.of(TOWN);
        x.seed(9);
        x.days(3);
        Check.put(x, 1, 0, 1);
        x.see();
        Check.due("where(1, 4) ahead of it", x.where(1, 4), 2);
        Check.due("crowd() ahead of it", x.crowd(), 0);
        Check.due("later(0, 2) ahead of it", x.later(0, 2), 0);
        int[] image = proved(2, 5, 1, 1, 0, 0, 2, 3, 2, 4, 4, 0, 1);
        Check.due("on()", onBy(x, image), true);
        Check.due("has(3)", x.has(3), 517);
        Check.due("has(4)", x.has(4), 2);
        Check.due("has(5)", x.has(5), 1);
        Check.due("has(6)", x.has(6), 1);
        Check.due("has(7): nothing is kept", x.has(7), 0);
        Check.due("has(8): seen stays", x.has(8), 1);
        Check.due("has(9): no act", x.has(9), 0);
        Check.due("has(10): the seed stays", x.has(10), 9);
        Check.due("undo()", x.undo(), false);
        Check.due("kept(0, 0)", x.kept(0, 0), -1);
        Check.due("person(0, 0)", x.person(0, 0), 1);
        Check.due("person(0, 2)", x.person(0, 2), 1);
        Check.due("person(1, 0)", x.person(1, 0), 0);
        Check.due("person(1, 2)", x.person(1, 2), 0);
        Check.due("frame(0, 0)", x.frame(0, 0), 3);
        Check.due("frame(0, 1)", x.frame(0, 1), 2);
        Check.due("frame(0, 2)", x.frame(0, 2), 4);
        Check.due("frame(1, 0)", x.frame(1, 0), 4);
        Check.due("frame(1, 1)", x.frame(1, 1), 0);
        Check.due("where(1, 4)", x.where(1, 4), 0);
        Check.due("status(5)", x.status(5), 0);
        written(x, Arrays.copyOf(image, image.length - 1));
        x.days(1);
        Check.due("kept(0, 0) behind it", x.kept(0, 0), 517);
        Check.due("has(7) behind it", x.has(7), 1);
    }

    private static void onAtTheEdges() {
        SilentReel x = Check.of(TOWN);
        Check.due("on() of day 999", onBy(x, proved(3, 231, 2, 1, 2, 1, 0)), true);
        Check.due("has(3)", x.has(3), 999);
        Check.due("days(1)", x.days(1), -1);
        for (int day : new int[] {255, 256, 257, 511, 512, 767, 768, 998}) {
            onBy(x, proved(day / 256, day % 256, 2, 1, 2, 1, 0));
            Check.due("has(3) of day " + day, x.has(3), day);
            written(x, day / 256, day % 256, 2, 1, 2, 1, 0);
        }
        Check.due("on() of eight frames", onBy(x, proved(0, 0, 0, 0, 0, 0, 8, 1, 0, 0, 1, 1, 6, 1, 2, 3, 8, 0, 0,
                8, 1, 0, 8, 2, 0, 5, 0, 0, 6, 0, 0)), true);
        Check.due("has(4)", x.has(4), 8);
        Check.due("frame(7, 0)", x.frame(7, 0), 6);
        Check.due("on() again", onBy(x, proved(0, 0, 0, 0, 0, 0, 0)), true);
        Check.due("has(4) again", x.has(4), 0);
    }

    private static void refused(int... bytes) {
        SilentReel x = Check.of(TOWN);
        x.days(2);
        x.send(0, 1);
        Check.due("on() of " + Arrays.toString(bytes), onBy(x, bytes), false);
        Check.due("status(5)", x.status(5), 1);
        Check.due("has(7)", x.has(7), 2);
        Check.due("has(9)", x.has(9), 2);
        written(x, 0, 2, 1, 0, 2, 1, 0);
        Check.due("where(0, 1)", x.where(0, 1), 1);
    }

    private static void onRefused() {
        int[] good = proved(0, 7, 1, 1, 2, 0, 1, 3, 0, 2);
        Check.due("on() of the good one", onBy(Check.of(TOWN), good), true);
        refused();
        refused(0);
        for (int length = 1; length < good.length; length++) {
            refused(Arrays.copyOf(good, length));
            refused(proved(Arrays.copyOf(good, length - 1)));
        }
        refused(Arrays.copyOf(good, good.length + 1));
        refused(proved(Arrays.copyOf(good, good.length + 1)));
        for (int k = 0; k < good.length; k++) {
            int[] changed = good.clone();
            changed[k] = (changed[k] + 1) % 256;
            refused(changed);
        }
        refused(proved(3, 232, 1, 1, 2, 0, 1, 3, 0, 2));
        refused(proved(255, 255, 1, 1, 2, 0, 1, 3, 0, 2));
        refused(proved(0, 7, 3, 1, 2, 0, 1, 3, 0, 2));
        refused(proved(0, 7, 1, 2, 2, 0, 1, 3, 0, 2));
        refused(proved(0, 7, 1, 1, 255, 0, 1, 3, 0, 2));
        refused(proved(0, 7, 1, 1, 2, 255, 1, 3, 0, 2));
        refused(proved(0, 7, 1, 1, 2, 0, 1, 0, 0, 2));
        refused(proved(0, 7, 1, 1, 2, 0, 1, 9, 0, 2));
        refused(proved(0, 7, 1, 1, 2, 0, 1, 3, 3, 2));
        refused(proved(0, 7, 1, 1, 2, 0, 1, 3, 0, 7));
        refused(proved(0, 7, 1, 1, 2, 0, 0, 3, 0, 2));
        refused(proved(0, 7, 1, 1, 2, 0, 2, 3, 0, 2));
        refused(proved(0, 7, 1, 1, 2, 0, 2, 3, 0, 2, 3, 0, 2));
        refused(proved(0, 7, 1, 1, 2, 0, 2, 3, 0, 2, 3, 0, 1));
        refused(proved(0, 0, 0, 0, 0, 0, 9, 1, 0, 0, 2, 0, 0, 3, 0, 0, 4, 0, 0, 5, 0, 0, 6, 0, 0, 7, 0, 0, 8, 0, 0,
                1, 1, 0));
        refused(proved(0, 7, 1, 1, 2, 0, 255, 3, 0, 2));
    }

    private static void onWithoutPeople() {
        SilentReel x = new SilentReel();
        Check.due("on() of nobody", onBy(x, proved(0, 5, 0)), true);
        Check.due("has(3)", x.has(3), 5);
        Check.due("on() of a frame nowhere", onBy(x, proved(0, 5, 1, 1, 0, 0)), false);
        Check.due("has(3) stays", x.has(3), 5);
    }

    private static void status() {
        SilentReel x = Check.of(TOWN);
        x.end(1);
        Check.due("status(0)", x.status(0), 1);
        x.end(-1);
        Check.due("status(0) then", x.status(0), 2);
        Check.town(x, "z");
        Check.due("status(1)", x.status(1), 1);
        x.days(0);
        x.chance(41);
        Check.due("status(2)", x.status(2), 2);
        x.show(0, 0, 0);
        x.cut(9);
        x.watch(9, 1);
        x.send(0, 9);
        Check.due("status(3)", x.status(3), 4);
        x.undo();
        Check.due("status(4)", x.status(4), 1);
        x.seed(-1);
        x.see();
        x.on();
        Check.due("status(5)", x.status(5), 3);
        Check.due("status(6)", x.status(6), -1);
        Check.due("status(-1)", x.status(-1), -1);
        Check.due("status(MAX)", x.status(Integer.MAX_VALUE), -1);
        Check.due("status(MIN)", x.status(Integer.MIN_VALUE), -1);
        x.where(9, 9);
        x.who(9, 9);
        x.later(9, 99);
        x.began(9, 9);
        int[] due = {2, 1, 2, 4, 1, 3};
        for (int what = 0; what < 6; what++) {
            Check.due("status(" + what + ") of questions", x.status(what), due[what]);
        }
        Check.town(x, TOWN);
        for (int what = 0; what < 6; what++) {
            Check.due("status(" + what + ") behind town()", x.status(what), due[what]);
        }
    }
}
