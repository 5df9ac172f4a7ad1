import java.math.BigInteger;

/** Promises 23 to 31 and terms II: each sentence that names an edge, and each refusal with all that stays. */
public final class ActEdgeTest {
    private static final String TWO = "place a;place b;road a to b;person p at a kind 1;person q at b kind 2;";

    public static void main(String[] args) {
        daysOneToForty();
        daysRefused();
        daysThatAgree();
        daysBeyondTheLast();
        reelIsEmptyBehindTheDay();
        chanceOneToForty();
        chanceRefused();
        chanceBeyondTheLast();
        drawBelowRain();
        drawOfTheFrames();
        rainBehindAQuestion();
        drawWithoutFrames();
        drawWrapsAround();
        keptLessTheCut();
        showAtTheLimits();
        showRefused();
        showOfBoth();
        showOfEight();
        cutAtTheLimits();
        cutRefused();
        watchRefused();
        watchAtTheLimits();
        sendRefused();
        sendWithoutARoad();
        undoOfNone();
        undoOfTwenty();
        undoOfEachAct();
        undoLeavesTheSeed();
        refusedOnesAreNoActs();
        seedAtTheLimits();
        seedRefused();
        keptOfForty();
        keptOfNoneSuch();
        keptThatComesBack();
        Check.finish();
    }

    /** The document's draw, worked out with numbers that have no end. */
    private static int drawn(int seed, int times) {
        BigInteger x = BigInteger.valueOf(seed);
        for (int k = 0; k < times; k++) {
            x = x.multiply(BigInteger.valueOf(1103515245)).add(BigInteger.valueOf(12345))
                    .mod(BigInteger.ONE.shiftLeft(31));
        }
        return x.intValueExact();
    }

    private static int draw(int seed, int times, int m) {
        return drawn(seed, times) / 64 % m;
    }

    /** A seed whose first draw of 100 is so. */
    private static int seedOf(int hundredth) {
        int seed = 0;
        while (draw(seed, 1, 100) != hundredth) {
            seed++;
        }
        return seed;
    }

    private static SilentReel nearTheEnd(int daysLeft) {
        SilentReel x = Check.of(TWO + "goes far;rain 50;");
        for (int k = 0; k < 24; k++) {
            x.days(40);
        }
        if (daysLeft < 39) {
            x.days(39 - daysLeft);
        }
        x.show(3, 0, 1);
        x.image();
        Check.due("has(3) near the end", x.has(3), 999 - daysLeft);
        return x;
    }

    private static void refused(String call, int what, int answer, Shot.Call made) {
        Shot.refusedByTape(call, Shot.rich(), what, answer, made);
    }

    // ---- promise 23

    /** "n DAYS go by (1 .. 40)" */
    private static void daysOneToForty() {
        for (int n : new int[] {1, 2, 39, 40}) {
            SilentReel x = Check.of(TWO + "goes far;");
            Check.due("days(" + n + ")", x.days(n), n);
            Check.due("has(3) behind " + n, x.has(3), n);
            Check.due("has(7) behind " + n, x.has(7), n);
            Check.due("has(9) behind " + n, x.has(9), 1);
            Check.due("person(0, 0) behind " + n, x.person(0, 0), n % 2);
            Check.due("has(10): no draws", x.has(10), 1);
            Check.due("status(2)", x.status(2), 0);
        }
    }

    /** "NONE, refused (2), when it can't be" */
    private static void daysRefused() {
        refused("days(0)", 2, -1, x -> x.days(0));
        refused("days(41)", 2, -1, x -> x.days(41));
        for (int n : Shot.ENDS) {
            refused("days(" + n + ")", 2, -1, x -> x.days(n));
        }
    }

    /** "how many of them AGREE": none, one, all */
    private static void daysThatAgree() {
        SilentReel x = Check.of(TWO + "stays all;frame 1 a 2;");
        Check.due("days(1) that does not", x.days(1), 0);
        x.show(8, 0, 1);
        Check.due("days(1) that does", x.days(1), 1);
        Check.due("days(1) without frames", x.days(1), 1);
        x.show(8, 0, 0);
        Check.due("days(40), the first of which does not", x.days(40), 39);
    }

    /** "(beyond DAY 999)"; "the DAY is one more (999 at most)" */
    private static void daysBeyondTheLast() {
        for (int left : new int[] {0, 1, 39}) {
            SilentReel x = nearTheEnd(left);
            Shot.refused("days(" + (left + 1) + ") with " + left + " left", x, 2, -1, y -> y.days(left + 1));
        }
        for (int left : new int[] {1, 2, 39}) {
            SilentReel x = nearTheEnd(left);
            Check.due("days(" + left + ") with " + left + " left", x.days(left) >= 0, true);
            Check.due("has(3)", x.has(3), 999);
            Check.due("kept(39, 0)", x.kept(39, 0), 998);
            Check.due("days(1) at 999", x.days(1), -1);
            Check.due("days(40) at 999", x.days(40), -1);
            Check.due("days(MAX) at 999", x.days(Integer.MAX_VALUE), -1);
            Check.due("has(3) still", x.has(3), 999);
            Check.due("status(2)", x.status(2), 3);
        }
    }

    /** "Behind the DAY people are where they are then, the REEL is empty" */
    private static void reelIsEmptyBehindTheDay() {
        SilentReel x = Check.of(Texts.EIGHT + "place b;road a to b;person p at a kind 1;watch p;goes far;");
        x.days(1);
        Check.due("has(4)", x.has(4), 0);
        Check.due("frame(0, 0)", x.frame(0, 0), -1);
        Check.due("person(0, 0)", x.person(0, 0), 1);
        Check.due("person(0, 2): he still watches", x.person(0, 2), 1);
        Check.due("kept(0, 1)", x.kept(0, 1), 8);
        for (int step = 1; step <= 8; step++) {
            Check.due("eight can be shown again", x.show(step, 0, 1), true);
        }
    }

    // ---- promise 24

    /** "n DAYS by the seed (1 .. 40), one ACT" */
    private static void chanceOneToForty() {
        for (int n : new int[] {1, 2, 39, 40}) {
            SilentReel x = Check.of(TWO + "goes far;rain 50;");
            Check.due("chance(" + n + ")", x.chance(n), 0);
            Check.due("has(3) behind " + n, x.has(3), n);
            Check.due("has(7) behind " + n, x.has(7), n);
            Check.due("has(9) behind " + n, x.has(9), 1);
            Check.due("has(10): a draw each day", x.has(10), drawn(1, n));
            Check.due("person(0, 0) behind " + n, x.person(0, 0), n % 2);
            Check.due("undo()", x.undo(), true);
            Check.due("has(3): all of them undone", x.has(3), 0);
            Check.due("undo() again", x.undo(), false);
        }
    }

    private static void chanceRefused() {
        refused("chance(0)", 2, -1, x -> x.chance(0));
        refused("chance(41)", 2, -1, x -> x.chance(41));
        for (int n : Shot.ENDS) {
            refused("chance(" + n + ")", 2, -1, x -> x.chance(n));
        }
    }

    private static void chanceBeyondTheLast() {
        for (int left : new int[] {0, 1, 39}) {
            SilentReel x = nearTheEnd(left);
            Shot.refused("chance(" + (left + 1) + ") with " + left + " left", x, 2, -1, y -> y.chance(left + 1));
        }
        for (int left : new int[] {1, 2, 39}) {
            SilentReel x = nearTheEnd(left);
            Check.due("chance(" + left + ") with " + left + " left", x.chance(left) >= 0, true);
            Check.due("has(3)", x.has(3), 999);
            Check.due("chance(1) at 999", x.chance(1), -1);
            int seed = x.has(10);
            Check.due("chance(40) at 999", x.chance(40), -1);
            Check.due("has(10): no draw when it is refused", x.has(10), seed);
        }
    }

    /** "a DRAW of 100: below rain": the draws 0 and 99, and the rains on both sides of each */
    private static void drawBelowRain() {
        int[] draws = {0, 0, 0, 98, 98, 99, 99, 99};
        int[] rains = {0, 1, 100, 98, 99, 98, 99, 100};
        int[] due = {0, 1, 1, 0, 1, 0, 0, 1};
        for (int k = 0; k < draws.length; k++) {
            SilentReel x = Check.of(TWO + "frame 1 a 1;rain " + rains[k] + ";");
            int seed = seedOf(draws[k]);
            x.seed(seed);
            Check.due("chance(1) by a draw of " + draws[k] + " with rain " + rains[k], x.chance(1), due[k]);
            Check.due("has(10) behind it", x.has(10), drawn(seed, 1 + due[k]));
            Check.due("kept(0, 1) behind it", x.kept(0, 1), 1 - due[k]);
        }
    }

    /** "with a DRAW of these: that one is cut": the first, the last, the only one */
    private static void drawOfTheFrames() {
        boolean first = false;
        boolean last = false;
        for (int seed = 0; seed < 60; seed++) {
            SilentReel x = Check.of("place a;place b;road a to b;person p at a kind 1;watch p;rain 100;frame 1 b 1;"
                    + "frame 2 b 1;frame 3 b 1;frame 4 b 1;frame 5 b 1;frame 6 b 1;frame 7 b 1;frame 8 b 1;"
                    + "goes if(shown=1,5,0);");
            x.seed(seed);
            int cut = draw(seed, 2, 8);
            first |= cut == 0;
            last |= cut == 7;
            Check.due("chance(1)", x.chance(1), 1);
            Check.due("has(10)", x.has(10), drawn(seed, 2));
            Check.due("kept(0, 1)", x.kept(0, 1), 7);
            Check.due("kept(0, 2): he is where all others show him", x.kept(0, 2), 7);
            Check.due("person(0, 0): by the last frame, if it is left", x.person(0, 0), cut == 7 ? 0 : 1);
        }
        Check.due("the first one was drawn, and the last one", first && last, true);
        SilentReel one = Check.of("place a;frame 1 a 6;rain 100;");
        Check.due("chance(40) of one frame", one.chance(40), 1);
        Check.due("kept(0, 1) of one frame", one.kept(0, 1), 0);
        Check.due("kept(0, 2) of one frame", one.kept(0, 2), 0);
        Check.due("has(10): 41 draws", one.has(10), drawn(1, 41));
    }

    /** The day is gone through without the frame that was cut, though it was asked about ahead of the rain. */
    private static void rainBehindAQuestion() {
        SilentReel x = Check.of("place a;place b;road a to b;person p at a kind 1;watch p;rain 100;frame 8 b 1;"
                + "goes if(shown=1,5,0);");
        Check.due("where(0, 8) ahead of the rain", x.where(0, 8), 1);
        Check.due("chance(1)", x.chance(1), 1);
        Check.due("person(0, 0) behind the rain", x.person(0, 0), 0);
        x.undo();
        Check.due("where(0, 8) when it is undone", x.where(0, 8), 1);
    }

    /** "if there are FRAMES": without any there is no second draw */
    private static void drawWithoutFrames() {
        SilentReel x = Check.of(TWO + "rain 100;");
        Check.due("chance(1) without frames", x.chance(1), 0);
        Check.due("has(10): one draw", x.has(10), drawn(1, 1));
        x.show(1, 0, 1);
        Check.due("chance(2) with one on the first day", x.chance(2), 1);
        Check.due("has(10): three draws more", x.has(10), drawn(1, 4));
    }

    /** "x (the seed) becomes (1103515245 x + 12345) mod 2 to the 31; floor(x / 64) mod m" */
    private static void drawWrapsAround() {
        // the seed that becomes 0, and the one that becomes the most
        BigInteger whole = BigInteger.ONE.shiftLeft(31);
        BigInteger back = BigInteger.valueOf(1103515245).modInverse(whole);
        for (int due : new int[] {0, 1, 63, 64, 127, 12345, Integer.MAX_VALUE - 1, Integer.MAX_VALUE}) {
            int seed = BigInteger.valueOf(due).subtract(BigInteger.valueOf(12345)).multiply(back).mod(whole)
                    .intValueExact();
            int drawn = due / 64 % 100;
            SilentReel dry = Check.of(TWO + "frame 1 a 1;rain " + drawn + ";");
            dry.seed(seed);
            Check.due("chance(1) by " + seed, dry.chance(1), 0);
            Check.due("has(10) by " + seed, dry.has(10), due);
            SilentReel wet = Check.of(TWO + "frame 1 a 1;rain " + (drawn + 1) + ";");
            wet.seed(seed);
            Check.due("chance(1) by " + seed + " with more rain", wet.chance(1), 1);
            Check.due("has(10) by " + seed + " with more rain", wet.has(10), drawn(seed, 2));
        }
        for (int seed : new int[] {0, 1, 2, 1 << 30, Integer.MAX_VALUE - 1, Integer.MAX_VALUE}) {
            SilentReel x = Check.of(TWO);
            x.seed(seed);
            x.chance(40);
            Check.due("has(10) behind 40 draws from " + seed, x.has(10), drawn(seed, 40));
        }
    }

    /** "how many FRAMES it had (less one that was cut by rain), how many were TRUE" */
    private static void keptLessTheCut() {
        SilentReel x = Check.of(TWO + "stays all;frame 1 a 1;frame 2 a 1;rain 100;");
        x.chance(1);
        x.show(1, 0, 1);
        x.show(2, 0, 2);
        x.cut(1);
        x.days(1);
        int[][] due = {{0, 1, 1}, {1, 1, 1}};
        for (int k = 0; k < 2; k++) {
            for (int what = 0; what <= 2; what++) {
                Check.due("kept(" + k + ", " + what + ")", x.kept(k, what), due[k][what]);
            }
        }
    }

    // ---- promise 25

    private static void showAtTheLimits() {
        int[][] rows = {{1, 0, 0}, {1, 0, 6}, {8, 1, 0}, {8, 1, 6}, {4, 1, 3}};
        for (int[] row : rows) {
            SilentReel x = Check.of(TWO + "stays all;frame 2 a 1;");
            String call = "show(" + row[0] + ", " + row[1] + ", " + row[2] + ")";
            Check.due(call, x.show(row[0], row[1], row[2]), true);
            Check.due("has(4) behind " + call, x.has(4), 2);
            Check.due("has(9) behind " + call, x.has(9), 1);
            for (int what = 0; what <= 2; what++) {
                Check.due("frame(1, " + what + "): behind all", x.frame(1, what), row[what]);
            }
            Check.due("frame(0, 0)", x.frame(0, 0), 2);
            Check.due("status(3)", x.status(3), 0);
        }
    }

    /** "false, refused (3), when one of that STEP and PLACE is .. or it can't be" */
    private static void showRefused() {
        SilentReel rich = Shot.rich();
        int step = rich.frame(0, 0);
        int place = rich.frame(0, 1);
        for (int many = 0; many <= 6; many++) {
            int number = many;
            refused("show of one that is", 3, 0, x -> x.show(step, place, number) ? 1 : 0);
        }
        refused("show(0, 0, 0)", 3, 0, x -> x.show(0, 0, 0) ? 1 : 0);
        refused("show(9, 0, 0)", 3, 0, x -> x.show(9, 0, 0) ? 1 : 0);
        refused("show(8, 3, 0)", 3, 0, x -> x.show(8, 3, 0) ? 1 : 0);
        refused("show(8, 0, 7)", 3, 0, x -> x.show(8, 0, 7) ? 1 : 0);
        for (int end : Shot.ENDS) {
            refused("show(" + end + ", 0, 0)", 3, 0, x -> x.show(end, 0, 0) ? 1 : 0);
            refused("show(8, " + end + ", 0)", 3, 0, x -> x.show(8, end, 0) ? 1 : 0);
            refused("show(8, 0, " + end + ")", 3, 0, x -> x.show(8, 0, end) ? 1 : 0);
        }
        Check.due("show(8, 2, 6) that can be", Shot.rich().show(8, 2, 6), true);
    }

    /** "when one of that STEP and PLACE is": not one whose place is that step, and whose step is that place */
    private static void showOfBoth() {
        SilentReel x = Check.of(Texts.SEVEN + "frame 1 c 3;");
        Check.due("show(2, 1, 4)", x.show(2, 1, 4), true);
        Check.due("show(1, 1, 5)", x.show(1, 1, 5), true);
        Check.due("show(2, 2, 6)", x.show(2, 2, 6), true);
        int[][] due = {{1, 2, 3}, {2, 1, 4}, {1, 1, 5}, {2, 2, 6}};
        Check.due("has(4)", x.has(4), due.length);
        for (int k = 0; k < due.length; k++) {
            for (int what = 0; what <= 2; what++) {
                Check.due("frame(" + k + ", " + what + ")", x.frame(k, what), due[k][what]);
            }
            Check.due("shown already", x.show(due[k][0], due[k][1], 0), false);
        }
    }

    /** "8 are" */
    private static void showOfEight() {
        SilentReel x = Check.of(TWO);
        for (int step = 1; step <= 8; step++) {
            Check.due("show(" + step + ", 0, 0)", x.show(step, 0, 0), true);
        }
        Shot.refused("a ninth", x, 3, 0, y -> y.show(1, 1, 0) ? 1 : 0);
        Check.due("cut(7)", x.cut(7), true);
        Check.due("an eighth again", x.show(1, 1, 0), true);
        Check.due("a ninth again", x.show(8, 0, 0), false);
    }

    // ---- promise 26

    /** "those behind it come one place ahead" */
    private static void cutAtTheLimits() {
        for (int cut = 0; cut < 8; cut++) {
            SilentReel x = Check.of(Texts.EIGHT);
            Check.due("cut(" + cut + ")", x.cut(cut), true);
            Check.due("has(4)", x.has(4), 7);
            for (int k = 0; k < 7; k++) {
                Check.due("frame(" + k + ", 0)", x.frame(k, 0), k < cut ? k + 1 : k + 2);
            }
            Check.due("frame(7, 0)", x.frame(7, 0), -1);
            Check.due("cut(7) of seven", x.cut(7), false);
            Check.due("has(9)", x.has(9), 1);
        }
        SilentReel x = Check.of(TWO + "frame 1 a 1;frame 2 b 2;frame 3 a 3;");
        x.cut(0);
        int[][] due = {{2, 1, 2}, {3, 0, 3}};
        for (int k = 0; k < 2; k++) {
            for (int what = 0; what <= 2; what++) {
                Check.due("frame(" + k + ", " + what + ") one place ahead", x.frame(k, what), due[k][what]);
            }
        }
    }

    /** "false, refused (3), when there is none such" */
    private static void cutRefused() {
        int frames = Shot.rich().has(4);
        refused("cut(" + frames + ")", 3, 0, x -> x.cut(frames) ? 1 : 0);
        refused("cut(8)", 3, 0, x -> x.cut(8) ? 1 : 0);
        for (int end : Shot.ENDS) {
            refused("cut(" + end + ")", 3, 0, x -> x.cut(end) ? 1 : 0);
        }
        Check.due("cut(" + (frames - 1) + ") that can be", Shot.rich().cut(frames - 1), true);
        Shot.refused("cut(0) without frames", Check.of(TWO), 3, 0, x -> x.cut(0) ? 1 : 0);
    }

    // ---- promise 27

    /** "false, refused (3), when it is so already, there is none such, or for others": rich() has both watching */
    private static void watchRefused() {
        refused("watch(0, 1) already", 3, 0, x -> x.watch(0, 1) ? 1 : 0);
        refused("watch(1, 1) already", 3, 0, x -> x.watch(1, 1) ? 1 : 0);
        refused("watch(2, 1)", 3, 0, x -> x.watch(2, 1) ? 1 : 0);
        refused("watch(2, 0)", 3, 0, x -> x.watch(2, 0) ? 1 : 0);
        refused("watch(0, 2)", 3, 0, x -> x.watch(0, 2) ? 1 : 0);
        Shot.refused("watch(0, 0) already", Check.of(TWO), 3, 0, x -> x.watch(0, 0) ? 1 : 0);
        Shot.refused("watch(0, 2) of one who does not", Check.of(TWO), 3, 0, x -> x.watch(0, 2) ? 1 : 0);
        for (int end : Shot.ENDS) {
            refused("watch(" + end + ", 0)", 3, 0, x -> x.watch(end, 0) ? 1 : 0);
            refused("watch(" + end + ", 1)", 3, 0, x -> x.watch(end, 1) ? 1 : 0);
            refused("watch(0, " + end + ")", 3, 0, x -> x.watch(0, end) ? 1 : 0);
            Shot.refused("watch(0, " + end + ") of one who does not", Check.of(TWO), 3, 0,
                    x -> x.watch(0, end) ? 1 : 0);
        }
        // 32 more are the same bit
        refused("watch(32, 0)", 3, 0, x -> x.watch(32, 0) ? 1 : 0);
        refused("watch(-32, 0)", 3, 0, x -> x.watch(-32, 0) ? 1 : 0);
    }

    private static void watchAtTheLimits() {
        SilentReel x = Check.of(Texts.SIX);
        for (int person = 0; person < 6; person++) {
            Check.due("watch(" + person + ", 1)", x.watch(person, 1), true);
            Check.due("has(5)", x.has(5), person + 1);
            Check.due("person(" + person + ", 2)", x.person(person, 2), 1);
        }
        Check.due("watch(6, 1)", x.watch(6, 1), false);
        for (int person = 5; person >= 0; person--) {
            Check.due("watch(" + person + ", 0)", x.watch(person, 0), true);
            Check.due("has(5)", x.has(5), person);
        }
        Check.due("has(9)", x.has(9), 12);
    }

    // ---- promise 28

    /** "false, refused (3), when he is there, or there are none such": rich() has q in a */
    private static void sendRefused() {
        int there = Shot.rich().person(1, 0);
        refused("send(1, " + there + "): he is there", 3, 0, x -> x.send(1, there) ? 1 : 0);
        refused("send(2, 0)", 3, 0, x -> x.send(2, 0) ? 1 : 0);
        refused("send(2, 1): there are more places than people", 3, 0, x -> x.send(2, 1) ? 1 : 0);
        refused("send(0, 3)", 3, 0, x -> x.send(0, 3) ? 1 : 0);
        refused("send(2, 3)", 3, 0, x -> x.send(2, 3) ? 1 : 0);
        for (int end : Shot.ENDS) {
            refused("send(" + end + ", 0)", 3, 0, x -> x.send(end, 0) ? 1 : 0);
            refused("send(0, " + end + ")", 3, 0, x -> x.send(0, end) ? 1 : 0);
        }
    }

    private static void sendWithoutARoad() {
        SilentReel x = Check.of(Texts.SEVEN + "person p at a kind 1;stays all;");
        Check.due("send(0, 6)", x.send(0, 6), true);
        Check.due("where(0, 8)", x.where(0, 8), 6);
        Check.due("send(0, 6) again", x.send(0, 6), false);
        Check.due("send(0, 7)", x.send(0, 7), false);
        Check.due("send(0, 0)", x.send(0, 0), true);
        Check.due("has(9)", x.has(9), 2);
        SilentReel six = Check.of(Texts.SIX + "place b;stays all;");
        for (int person = 0; person < 6; person++) {
            Check.due("send(" + person + ", 1): there are more people than places", six.send(person, 1), true);
            Check.due("who(1, 8)", six.who(1, 8), (2 << person) - 1);
        }
        SilentReel gone = Check.of(TWO + "goes far;");
        gone.days(1);
        Check.due("send(0, 1): a day has brought him there", gone.send(0, 1), false);
        Check.due("send(0, 0): to where he was at first", gone.send(0, 0), true);
    }

    // ---- promise 29

    /** "false, refused (4), when none can be" */
    private static void undoOfNone() {
        Shot.refusedByTape("undo() of none", Check.of(TWO + "frame 1 a 1;"), 4, 0, x -> x.undo() ? 1 : 0);
        SilentReel x = Shot.rich();
        int acts = x.has(9);
        for (int k = 0; k < acts; k++) {
            Check.due("undo() " + k, x.undo(), true);
            Check.due("has(9)", x.has(9), acts - 1 - k);
        }
        Shot.refusedByTape("undo() of no more", x, 4, 0, y -> y.undo() ? 1 : 0);
    }

    /** "The last 20 can be undone": 19, 20 and 21 acts, and none twice */
    private static void undoOfTwenty() {
        for (int acts : new int[] {19, 20, 21, 22, 40, 41}) {
            SilentReel x = Check.of(TWO + "stays all;");
            for (int k = 0; k < acts; k++) {
                x.days(1);
            }
            int can = Math.min(20, acts);
            Check.due("has(9) behind " + acts, x.has(9), can);
            for (int k = 1; k <= can; k++) {
                Check.due("undo() " + k + " of " + acts, x.undo(), true);
                Check.due("has(3)", x.has(3), acts - k);
            }
            Shot.refused("undo() of one more than " + can, x, 4, 0, y -> y.undo() ? 1 : 0);
            Check.due("has(3) at last", x.has(3), acts - can);
            x.send(0, 1);
            Check.due("has(9) of a new one", x.has(9), 1);
            Check.due("undo() of a new one", x.undo(), true);
            Check.due("person(0, 0)", x.person(0, 0), 0);
            Check.due("undo() of no more", x.undo(), false);
        }
    }

    /** "all is as it was ahead of it (but the seed)" */
    private static void undoOfEachAct() {
        Shot.Call[] acts = {x -> x.days(1), x -> x.days(40), x -> x.chance(1), x -> x.chance(40),
            x -> x.show(8, 2, 6) ? 1 : 0, x -> x.cut(0) ? 1 : 0, x -> x.cut(1) ? 1 : 0, x -> x.watch(1, 0) ? 1 : 0,
            x -> x.send(0, 0) ? 1 : 0, x -> x.send(0, 2) ? 1 : 0};
        for (int k = 0; k < acts.length; k++) {
            Shot.Call act = acts[k];
            SilentReel x = Shot.rich();
            x.send(0, 1);
            int seed = x.has(10);
            Shot.asked("undo() of act " + k, x, 1, y -> {
                int ahead = y.has(9);
                act.on(y);
                y.agrees();
                Check.due("has(9) behind the act", y.has(9), ahead + 1);
                boolean undone = y.undo();
                y.seed(seed);
                return undone ? 1 : 0;
            });
        }
    }

    private static void undoLeavesTheSeed() {
        SilentReel x = Check.of(TWO + "frame 1 a 1;rain 100;");
        x.chance(1);
        x.undo();
        Check.due("has(10) behind undo()", x.has(10), drawn(1, 2));
        x.seed(5);
        x.days(1);
        x.seed(6);
        x.undo();
        Check.due("has(10) behind undo() of days", x.has(10), 6);
    }

    private static void refusedOnesAreNoActs() {
        SilentReel x = Check.of(TWO);
        x.send(0, 1);
        x.send(0, 1);
        x.send(5, 1);
        x.cut(0);
        x.show(0, 0, 0);
        x.watch(0, 0);
        x.days(0);
        x.chance(0);
        x.seed(-1);
        x.seed(3);
        x.see();
        x.on();
        x.image();
        Check.due("has(9)", x.has(9), 1);
        Check.due("undo()", x.undo(), true);
        Check.due("person(0, 0)", x.person(0, 0), 0);
        Check.due("undo() again", x.undo(), false);
    }

    // ---- promise 30

    private static void seedAtTheLimits() {
        SilentReel x = Check.of(TWO);
        for (int seed : new int[] {0, 1, 2, 1 << 30, Integer.MAX_VALUE - 1, Integer.MAX_VALUE}) {
            Check.due("seed(" + seed + ")", x.seed(seed), true);
            Check.due("has(10)", x.has(10), seed);
        }
        Check.due("status(5)", x.status(5), 0);
        Check.due("has(9): no act", x.has(9), 0);
    }

    /** "false, refused (5), when it is below 0" */
    private static void seedRefused() {
        for (int seed : new int[] {-1, -2, -1103515245, Integer.MIN_VALUE + 1, Integer.MIN_VALUE}) {
            refused("seed(" + seed + ")", 5, 0, x -> x.seed(seed) ? 1 : 0);
        }
    }

    // ---- promise 31

    /** "(the last 40 are told)", "the k-th from the oldest on" */
    private static void keptOfForty() {
        for (int days : new int[] {39, 40, 41, 80, 81}) {
            SilentReel x = Check.of(TWO + "stays all;");
            for (int day = 0; day < days; day += 20) {
                x.show(1, 0, 1);
                x.show(2, 0, 0);
                x.days(Math.min(20, days - day));
            }
            int told = Math.min(40, days);
            Check.due("has(7) behind " + days, x.has(7), told);
            for (int k = 0; k < told; k++) {
                int day = days - told + k;
                Check.due("kept(" + k + ", 0) behind " + days, x.kept(k, 0), day);
                Check.due("kept(" + k + ", 1) behind " + days, x.kept(k, 1), day % 20 == 0 ? 2 : 0);
                Check.due("kept(" + k + ", 2) behind " + days, x.kept(k, 2), day % 20 == 0 ? 1 : 0);
            }
            Check.due("kept(" + told + ", 0) behind " + days, x.kept(told, 0), -1);
            Check.due("kept(-1, 0) behind " + days, x.kept(-1, 0), -1);
        }
    }

    /** "NONE when there is none such, or for others": rich() has two */
    private static void keptOfNoneSuch() {
        Check.due("kept(1, 2)", Shot.rich().kept(1, 2) >= 0, true);
        Shot.asked("kept(2, 0)", Shot.rich(), -1, x -> x.kept(2, 0));
        Shot.asked("kept(0, 3)", Shot.rich(), -1, x -> x.kept(0, 3));
        for (int end : Shot.ENDS) {
            Shot.asked("kept(" + end + ", 0)", Shot.rich(), -1, x -> x.kept(end, 0));
            Shot.asked("kept(0, " + end + ")", Shot.rich(), -1, x -> x.kept(0, end));
        }
        Check.due("kept(0, 0) of none", Check.of(TWO).kept(0, 0), -1);
        SilentReel all = nearTheEnd(0);
        Check.due("kept(39, 0) on day 999", all.kept(39, 0), 998);
        Check.due("kept(40, 0) on day 999", all.kept(40, 0), -1);
    }

    /** What was told ahead of an act is told again when it is undone, though 40 came behind it. */
    private static void keptThatComesBack() {
        SilentReel x = Check.of(TWO + "stays all;frame 1 a 1;");
        x.days(1);
        x.days(40);
        Check.due("kept(0, 0) behind 41", x.kept(0, 0), 1);
        x.undo();
        Check.due("has(7) behind undo()", x.has(7), 1);
        Check.due("kept(0, 0) behind undo()", x.kept(0, 0), 0);
        Check.due("kept(0, 1) behind undo()", x.kept(0, 1), 1);
        x.undo();
        Check.due("has(7) at first", x.has(7), 0);
    }
}
