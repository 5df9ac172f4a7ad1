import java.util.Arrays;

/** Promises 32 to 35 and terms III, images: each sentence that names an edge, and each refusal with all that stays. */
public final class ImageEdgeTest {
    private static final String TOWN = "place a;place b;place c;road a to b;person p at a kind 1;"
            + "person q at c kind 2;watch q;stays all;";

    public static void main(String[] args) {
        shortestAndLongest();
        dayOfTwoBytes();
        lastByte();
        octetOfNoneSuch();
        octetOfTheLatest();
        onOfWhatWasWritten();
        onOfDays();
        onOfFrames();
        onOfPeopleShown();
        onOfStepsAndPlaces();
        onOfWatchers();
        onOfNoTwoFrames();
        onOfALastByte();
        onOfLengths();
        onOfAnotherTown();
        nothingIsKept();
        whatOnLeaves();
        statusOfEach();
        statusOfOthers();
        Check.finish();
    }

    private static int proof(int... bytes) {
        int c = 193;
        for (int octet : bytes) {
            c = (5 * c + octet) % 251;
        }
        return c;
    }

    private static int[] proved(int... bytes) {
        int[] all = Arrays.copyOf(bytes, bytes.length + 1);
        all[bytes.length] = proof(bytes);
        return all;
    }

    private static int[] joined(int[] one, int... other) {
        int[] all = Arrays.copyOf(one, one.length + other.length);
        System.arraycopy(other, 0, all, one.length, other.length);
        return all;
    }

    private static void written(SilentReel x, int... bytes) {
        int[] due = proved(bytes);
        Check.due("image()", x.image(), due.length);
        for (int k = 0; k < due.length; k++) {
            Check.due("octet(" + k + ") of " + due.length, x.octet(k), due[k]);
        }
        Check.due("octet(" + due.length + ")", x.octet(due.length), -1);
    }

    private static boolean onBy(SilentReel x, int... bytes) {
        Check.put(x, bytes);
        return x.on();
    }

    /** An image that is taken, and tells the same when it is written again. */
    private static void taken(String text, int... bytes) {
        SilentReel x = Check.of(text);
        Check.due("on() of " + Arrays.toString(bytes), onBy(x, proved(bytes)), true);
        Check.due("status(5)", x.status(5), 0);
        Check.due("end(1): the tape goes", x.end(1), false);
        written(x, bytes);
    }

    private static void notTaken(int... bytes) {
        SilentReel x = Shot.rich();
        Check.put(x, bytes);
        String call = "on() of " + Arrays.toString(bytes);
        Shot.refused(call, x, 5, 0, y -> y.on() ? 1 : 0);
        Check.due("end(1): the tape goes behind " + call, x.end(1), false);
        Check.due("undo() behind " + call, x.undo(), true);
    }

    // ---- promises 32 and 33

    /** "AN IMAGE: DAY (two bytes ..); for each PERSON ..; how many FRAMES, ..; last a byte" */
    private static void shortestAndLongest() {
        written(new SilentReel(), 0, 0, 0);
        written(Check.of("place a;"), 0, 0, 0);
        written(Check.of("place a;frame 8 a 6;"), 0, 0, 1, 8, 0, 6);
        SilentReel x = Check.of(Texts.SEVEN + "person p at g kind 1;person q at g kind 1;person r at g kind 1;"
                + "person s at g kind 1;person t at g kind 1;person u at g kind 1;watch p;watch q;watch r;watch s;"
                + "watch t;watch u;stays all;");
        int[] due = {0, 0, 6, 1, 6, 1, 6, 1, 6, 1, 6, 1, 6, 1, 8};
        for (int step = 1; step <= 8; step++) {
            x.show(step, 6, 6);
            due = joined(due, step, 6, 6);
        }
        written(x, due);
        Check.due("image() of the longest", x.image(), 40);
    }

    /** "DAY (two bytes, the higher first)" */
    private static void dayOfTwoBytes() {
        SilentReel x = Check.of("place a;");
        int day = 0;
        for (int next : new int[] {1, 127, 128, 255, 256, 257, 511, 512, 767, 768, 998, 999}) {
            while (day < next) {
                int n = Math.min(40, next - day);
                x.days(n);
                day += n;
            }
            written(x, next / 256, next % 256, 0);
        }
    }

    /** "all ahead from 193 on, c = (5 c + it) mod 251": from 0 to 250, so no byte above that */
    private static void lastByte() {
        boolean[] seen = new boolean[256];
        for (int day = 0; day <= 999; day++) {
            SilentReel x = new SilentReel();
            int due = ((193 * 5 + day / 256) % 251 * 5 + day % 256) % 251 * 5 % 251;
            Check.due("on() of day " + day, onBy(x, day / 256, day % 256, 0, due), true);
            x.image();
            Check.due("octet(3) of day " + day, x.octet(3), due);
            seen[due] = true;
        }
        Check.due("a last byte of 0", seen[0], true);
        Check.due("a last byte of 250", seen[250], true);
    }

    /** "NONE when there is none such" */
    private static void octetOfNoneSuch() {
        SilentReel x = Check.of(TOWN);
        Check.due("octet(0) ahead of any", x.octet(0), -1);
        Check.due("image()", x.image(), 8);
        Check.due("octet(0)", x.octet(0), 0);
        Check.due("octet(7)", x.octet(7), proof(0, 0, 0, 0, 2, 1, 0));
        Check.due("octet(8)", x.octet(8), -1);
        for (int k : Shot.ENDS) {
            Check.due("octet(" + k + ")", x.octet(k), -1);
        }
        for (int k : Shot.ENDS) {
            Shot.asked("octet(" + k + ") of rich()", Shot.rich(), -1, y -> y.octet(k));
        }
    }

    /** "Byte k of the latest image()" */
    private static void octetOfTheLatest() {
        SilentReel x = Check.of(TOWN + "frame 1 a 1;");
        x.image();
        x.cut(0);
        Check.due("octet(6): as it was written", x.octet(6), 1);
        Check.due("octet(10): as it was written", x.octet(10) >= 0, true);
        Check.due("image() again", x.image(), 8);
        Check.due("octet(6) again", x.octet(6), 0);
        Check.due("octet(8): of a shorter one", x.octet(8), -1);
        x.undo();
        Check.due("octet(6) behind undo()", x.octet(6), 0);
        onBy(x, 1);
        Check.due("octet(6) behind on()", x.octet(6), 0);
        Check.town(x, "place a;");
        Check.due("octet(7) behind town()", x.octet(7), proof(0, 0, 0, 0, 2, 1, 0));
    }

    // ---- promise 34

    /** "The tape (it goes) is AN IMAGE of this TOWN: true, all is as it tells" */
    private static void onOfWhatWasWritten() {
        SilentReel x = Shot.rich();
        int[] bytes = new int[x.image()];
        for (int k = 0; k < bytes.length; k++) {
            bytes[k] = x.octet(k);
        }
        int[] ahead = {x.where(0, 8), x.where(1, 8), x.agrees(), x.cuts(), x.crowd(), x.has(5), x.has(6)};
        x.days(3);
        x.show(1, 0, 3);
        x.watch(0, 0);
        Check.due("on()", onBy(x, bytes), true);
        int[] behind = {x.where(0, 8), x.where(1, 8), x.agrees(), x.cuts(), x.crowd(), x.has(5), x.has(6)};
        for (int k = 0; k < ahead.length; k++) {
            Check.due("answer " + k + " behind on()", behind[k], ahead[k]);
        }
        written(x, Arrays.copyOf(bytes, bytes.length - 1));
        Check.due("on() of the same again", onBy(x, bytes), true);
    }

    /** "DAY 999 .. at most" */
    private static void onOfDays() {
        for (int day : new int[] {0, 1, 255, 256, 998, 999}) {
            taken(TOWN, day / 256, day % 256, 0, 0, 2, 1, 0);
        }
        for (int day : new int[] {1000, 1001, 1023, 1024, 32767, 32768, 65535}) {
            notTaken(proved(day / 256, day % 256, 0, 0, 2, 1, 0));
        }
        SilentReel x = Check.of(TOWN);
        onBy(x, proved(999 / 256, 999 % 256, 0, 0, 2, 1, 0));
        Check.due("has(3)", x.has(3), 999);
        Check.due("days(1)", x.days(1), -1);
        Check.due("later(0, 1)", x.later(0, 1), -1);
        onBy(x, proved(998 / 256, 998 % 256, 0, 0, 2, 1, 0));
        Check.due("days(1) from 998", x.days(1), 1);
        Check.due("has(3) from 998", x.has(3), 999);
        Check.due("kept(0, 0) from 998", x.kept(0, 0), 998);
    }

    private static int[] frames(int count) {
        int[] bytes = {0, 0, 0, 0, 2, 1, count};
        for (int k = 0; k < count; k++) {
            bytes = joined(bytes, k % 8 + 1, k / 8, k % 7);
        }
        return bytes;
    }

    /** "8 FRAMES .. at most" */
    private static void onOfFrames() {
        taken(TOWN, frames(0));
        taken(TOWN, frames(1));
        taken(TOWN, frames(7));
        taken(TOWN, frames(8));
        notTaken(proved(frames(9)));
        notTaken(proved(frames(10)));
        notTaken(proved(frames(24)));
        int[] most = frames(255);
        notTaken(proved(most));
    }

    /** "6 people at most" */
    private static void onOfPeopleShown() {
        for (int many = 0; many <= 6; many++) {
            taken(TOWN, 0, 0, 0, 0, 2, 1, 1, 4, 1, many);
        }
        for (int many : new int[] {7, 8, 128, 255}) {
            notTaken(proved(0, 0, 0, 0, 2, 1, 1, 4, 1, many));
            notTaken(proved(0, 0, 0, 0, 2, 1, 2, 4, 0, 1, 4, 1, many));
        }
    }

    /** "STEPS, PLACES that there are" */
    private static void onOfStepsAndPlaces() {
        for (int step = 1; step <= 8; step++) {
            taken(TOWN, 0, 0, 0, 0, 2, 1, 1, step, 2, 1);
        }
        for (int step : new int[] {0, 9, 128, 255}) {
            notTaken(proved(0, 0, 0, 0, 2, 1, 1, step, 2, 1));
            notTaken(proved(0, 0, 0, 0, 2, 1, 2, 1, 1, 1, step, 2, 1));
        }
        for (int place = 0; place <= 2; place++) {
            taken(TOWN, 0, 0, place, 0, 2, 1, 0);
            taken(TOWN, 0, 0, 0, 0, place, 1, 0);
            taken(TOWN, 0, 0, 0, 0, 2, 1, 1, 1, place, 1);
        }
        for (int place : new int[] {3, 4, 7, 128, 255}) {
            notTaken(proved(0, 0, place, 0, 2, 1, 0));
            notTaken(proved(0, 0, 0, 0, place, 1, 0));
            notTaken(proved(0, 0, 0, 0, 2, 1, 1, 1, place, 1));
            notTaken(proved(0, 0, 0, 0, 2, 1, 2, 1, 0, 1, 1, place, 1));
        }
        SilentReel none = new SilentReel();
        Check.due("on() of a frame without a place", onBy(none, proved(0, 0, 1, 1, 0, 0)), false);
    }

    /** "1 if he watches, else 0" */
    private static void onOfWatchers() {
        for (int bits = 0; bits < 4; bits++) {
            taken(TOWN, 0, 0, 0, bits & 1, 2, bits >> 1, 0);
        }
        for (int other : new int[] {2, 3, 128, 255}) {
            notTaken(proved(0, 0, 0, other, 2, 1, 0));
            notTaken(proved(0, 0, 0, 0, 2, other, 0));
        }
    }

    /** "no two FRAMES of one STEP and PLACE" */
    private static void onOfNoTwoFrames() {
        taken(TOWN, 0, 0, 0, 0, 2, 1, 4, 1, 0, 1, 1, 1, 1, 2, 0, 1, 2, 1, 1);
        notTaken(proved(0, 0, 0, 0, 2, 1, 2, 1, 0, 1, 1, 0, 1));
        notTaken(proved(0, 0, 0, 0, 2, 1, 2, 1, 0, 1, 1, 0, 2));
        notTaken(proved(0, 0, 0, 0, 2, 1, 3, 8, 2, 1, 1, 0, 2, 8, 2, 0));
    }

    private static void onOfALastByte() {
        int[] good = {0, 5, 1, 1, 2, 0, 1, 3, 0, 2};
        taken(TOWN, good);
        for (int last = 0; last < 256; last++) {
            if (last != proof(good)) {
                SilentReel x = Check.of(TOWN);
                Check.due("on() with a last byte of " + last, onBy(x, joined(good, last)), false);
                Check.due("has(3) stays", x.has(3), 0);
                Check.due("status(5)", x.status(5), 1);
            }
        }
        for (int k = 0; k < good.length; k++) {
            int[] changed = proved(good);
            changed[k] ^= 1;
            notTaken(changed);
        }
        // 251 more is the same to the last byte, where a byte can be so much more
        int[] nought = {0, 0, 0, 0, 2, 1, 0};
        int[] more = {0, 251, 0, 0, 2, 1, 0};
        Check.due("the last byte of day 0 and of day 251", proof(nought), proof(more));
        SilentReel x = Check.of(TOWN);
        Check.due("on() of day 251", onBy(x, proved(more)), true);
        Check.due("has(3) of day 251", x.has(3), 251);
    }

    private static void onOfLengths() {
        int[] good = proved(0, 5, 1, 1, 2, 0, 1, 3, 0, 2);
        for (int length = 0; length < good.length; length++) {
            notTaken(Arrays.copyOf(good, length));
            if (length > 0) {
                notTaken(proved(Arrays.copyOf(good, length - 1)));
            }
        }
        notTaken(joined(good, 0));
        notTaken(proved(good));
        notTaken(joined(good, 0, 0, 0));
        notTaken(proved(0, 5, 1, 1, 2, 0, 0, 3, 0, 2));
        notTaken(proved(0, 5, 1, 1, 2, 0, 2, 3, 0, 2));
        notTaken(Arrays.copyOf(good, 300));
        notTaken(new int[1600 - 14]);
        SilentReel x = Check.of(TOWN);
        Check.put(x, joined(good, new int[1600 - good.length]));
        Check.due("end(1600)", x.end(1600), true);
        Check.due("on() of a whole tape", x.on(), false);
    }

    /** "AN IMAGE of this TOWN": with as many people as it has */
    private static void onOfAnotherTown() {
        notTaken(proved(0, 0, 0));
        notTaken(proved(0, 0, 0, 0, 0));
        notTaken(proved(0, 0, 0, 0, 0, 0, 0, 0, 0));
        Check.due("on() of nobody", onBy(new SilentReel(), proved(3, 231, 0)), true);
        SilentReel x = Check.of(Texts.SIX);
        Check.due("on() of six", onBy(x, proved(0, 1, 0, 1, 0, 0, 0, 1, 0, 0, 0, 1, 0, 1, 0)), true);
        Check.due("has(5) of six", x.has(5), 4);
        Check.due("on() of five", onBy(x, proved(0, 1, 0, 1, 0, 0, 0, 1, 0, 0, 0, 1, 0)), false);
    }

    /** "nothing is KEPT, no ACT can be undone" */
    private static void nothingIsKept() {
        SilentReel x = Shot.rich();
        Check.due("has(7) ahead", x.has(7), 2);
        Check.due("has(5) ahead", x.has(5), 2);
        Check.due("where(0, 0) ahead", x.where(0, 0) == 0, x.person(0, 0) == 0);
        x.self(1, 0);
        Check.due("on()", onBy(x, proved(0, 2, 1, 0, 2, 1, 0)), true);
        Check.due("has(5)", x.has(5), 1);
        Check.due("where(0, 0)", x.where(0, 0), 1);
        Check.due("where(1, 0)", x.where(1, 0), 2);
        Check.due("has(7)", x.has(7), 0);
        Check.due("kept(0, 0)", x.kept(0, 0), -1);
        Check.due("has(9)", x.has(9), 0);
        Check.due("undo()", x.undo(), false);
        x.days(1);
        Check.due("has(7) of a day", x.has(7), 1);
        Check.due("kept(0, 0) of a day", x.kept(0, 0), 2);
        Check.due("undo() of a day", x.undo(), true);
        Check.due("has(7) of none", x.has(7), 0);
        Check.due("undo() of none", x.undo(), false);
    }

    /** What an image does not tell stays: the seed, what was seen, the latest image, refusals. */
    private static void whatOnLeaves() {
        SilentReel x = Shot.rich();
        int[] status = new int[6];
        for (int what = 0; what < 6; what++) {
            status[what] = x.status(what);
        }
        int octet = x.octet(3);
        onBy(x, proved(0, 2, 0, 0, 2, 1, 0));
        Check.due("has(10)", x.has(10), 77);
        Check.due("has(8)", x.has(8), 1);
        Check.due("octet(3)", x.octet(3), octet);
        for (int what = 0; what < 6; what++) {
            Check.due("status(" + what + ")", x.status(what), status[what]);
        }
    }

    // ---- promise 35

    /** "How many were refused: 0 feed(), end(); 1 town(); 2 days(), chance(); 3 ..; 4 undo(); 5 seed(), see(), on()" */
    private static void statusOfEach() {
        SilentReel x = new SilentReel();
        int[] due = new int[6];
        for (int round = 1; round <= 3; round++) {
            x.end(1);
            counted(x, due, 0);
            x.end(-1);
            counted(x, due, 0);
            Check.town(x, "x");
            counted(x, due, 1);
            x.days(0);
            counted(x, due, 2);
            x.chance(41);
            counted(x, due, 2);
            x.show(1, 0, 0);
            counted(x, due, 3);
            x.cut(0);
            counted(x, due, 3);
            x.watch(0, 1);
            counted(x, due, 3);
            x.send(0, 0);
            counted(x, due, 3);
            x.undo();
            counted(x, due, 4);
            x.seed(-1);
            counted(x, due, 5);
            x.see();
            counted(x, due, 5);
            x.on();
            counted(x, due, 5);
        }
        SilentReel full = new SilentReel();
        for (int k = 0; k < 80; k++) {
            full.feed(0, 0, 0, 0, 0);
        }
        Check.due("status(0) of 80 feeds", full.status(0), 0);
        full.feed(0, 0, 0, 0, 0);
        Check.due("status(0) of the 81st", full.status(0), 1);
        // "An object is used for at most 512 calls after it has been made": this is the 512th
        SilentReel many = new SilentReel();
        for (int k = 1; k <= 511; k++) {
            many.undo();
        }
        Check.due("status(4) of 511", many.status(4), 511);
    }

    private static void counted(SilentReel x, int[] due, int which) {
        due[which]++;
        for (int what = 0; what < 6; what++) {
            Check.due("status(" + what + ")", x.status(what), due[what]);
        }
    }

    /** "NONE for others" */
    private static void statusOfOthers() {
        for (SilentReel x : new SilentReel[] {new SilentReel(), Shot.rich()}) {
            Check.due("status(6)", x.status(6), -1);
            for (int what : Shot.ENDS) {
                Check.due("status(" + what + ")", x.status(what), -1);
            }
        }
    }
}
