/** Promises 23 (days) to 31 (kept). */
public final class ActsTest {
    private static final int[] ODD = {Integer.MIN_VALUE, -2, -1, 41, 100, Integer.MAX_VALUE};
    private static final String TWO = "place a;place b;road a to b;person p at a kind 1;person q at b kind 2;";

    public static void main(String[] args) {
        days();
        daysRefused();
        chance();
        chanceOfNought();
        chanceOfMany();
        chanceUndone();
        show();
        cut();
        watch();
        send();
        undo();
        undoTwenty();
        undoOfDays();
        seed();
        kept();
        keptForty();
        Check.finish();
    }

    private static void days() {
        SilentReel x = Check.of(TWO + "watch p;frame 1 a 1;frame 2 b 2;goes far;rain 100;");
        // p goes to b, q to a, and each stays there: frame 0 is true, frame 1 is not
        Check.due("days(1)", x.days(1), 0);
        Check.due("has(3)", x.has(3), 1);
        Check.due("has(4): the reel is empty", x.has(4), 0);
        Check.due("has(5): he still watches", x.has(5), 1);
        Check.due("has(10): no draws", x.has(10), 1);
        Check.due("person(0, 0)", x.person(0, 0), 1);
        Check.due("person(1, 0)", x.person(1, 0), 0);
        Check.due("kept(0, 1)", x.kept(0, 1), 2);
        Check.due("kept(0, 2)", x.kept(0, 2), 1);
        x.show(1, 0, 1);
        Check.due("days(3): all agree", x.days(3), 3);
        Check.due("has(3) then", x.has(3), 4);
        Check.due("person(0, 0) to, fro, to", x.person(0, 0), 0);
        x.show(1, 0, 6);
        Check.due("days(40): all but one agree", x.days(40), 39);
        Check.due("has(3) at last", x.has(3), 44);
        Check.due("has(9)", x.has(9), 5);
        Check.due("status(2)", x.status(2), 0);
    }

    private static void daysRefused() {
        SilentReel x = Check.of(TWO);
        int refused = 0;
        for (int odd : ODD) {
            Check.due("days(" + odd + ")", x.days(odd), -1);
            Check.due("chance(" + odd + ")", x.chance(odd), -1);
            refused += 2;
            Check.due("status(2)", x.status(2), refused);
        }
        Check.due("days(0)", x.days(0), -1);
        Check.due("chance(0)", x.chance(0), -1);
        refused += 2;
        Check.due("has(3)", x.has(3), 0);
        Check.due("has(9)", x.has(9), 0);
        Check.due("has(10)", x.has(10), 1);
        for (int k = 0; k < 24; k++) {
            Check.due("days(40)", x.days(40), 40);
        }
        Check.due("days(40) beyond 999", x.days(40), -1);
        Check.due("chance(40) beyond 999", x.chance(40), -1);
        Check.due("has(3) at 960", x.has(3), 960);
        Check.due("days(38)", x.days(38), 38);
        Check.due("chance(2) beyond 999", x.chance(2), -1);
        Check.due("days(2) beyond 999", x.days(2), -1);
        Check.due("days(1) to 999", x.days(1), 1);
        Check.due("has(3) at 999", x.has(3), 999);
        Check.due("kept(39, 0)", x.kept(39, 0), 998);
        Check.due("days(1) beyond 999", x.days(1), -1);
        Check.due("chance(1) beyond 999", x.chance(1), -1);
        Check.due("status(2) at last", x.status(2), refused + 6);
        Check.due("has(7)", x.has(7), 40);
        Check.due("undo()", x.undo(), true);
        Check.due("chance(1) to 999", x.chance(1), 0);
        Check.due("has(3) at 999 again", x.has(3), 999);
    }

    /** From seed 1: 1103527590, of which the draw of 100 is 18; then 377401575, of which the draw of 2 is 1. */
    private static void chance() {
        String frames = TWO + "stays all;frame 1 a 1;frame 2 a 0;";
        SilentReel dry = Check.of(frames + "rain 18;");
        Check.due("chance(1) by 18", dry.chance(1), 0);
        Check.due("has(10) by 18", dry.has(10), 1103527590);
        Check.due("kept(0, 1) by 18", dry.kept(0, 1), 2);
        Check.due("kept(0, 2) by 18", dry.kept(0, 2), 1);
        SilentReel wet = Check.of(frames + "rain 19;");
        Check.due("chance(1) by 19", wet.chance(1), 1);
        Check.due("has(10) by 19", wet.has(10), 377401575);
        Check.due("kept(0, 0) by 19", wet.kept(0, 0), 0);
        Check.due("kept(0, 1) by 19: less the one cut", wet.kept(0, 1), 1);
        Check.due("kept(0, 2) by 19: the first was left", wet.kept(0, 2), 1);
        Check.due("has(3) by 19", wet.has(3), 1);
        Check.due("has(4) by 19", wet.has(4), 0);
        SilentReel never = Check.of(frames + "rain 100;rain 0;");
        Check.due("chance(40) without rain", never.chance(40), 0);
        Check.due("has(9): one act", never.has(9), 1);
        Check.due("has(3) behind 40", never.has(3), 40);
        SilentReel bare = Check.of(TWO + "rain 100;");
        Check.due("chance(1) without frames", bare.chance(1), 0);
        Check.due("has(10): one draw alone", bare.has(10), 1103527590);
        Check.due("chance(2) without frames", bare.chance(2), 0);
        Check.due("has(10) behind three draws", bare.has(10), drawn(1, 3));
    }

    private static int drawn(int seed, int times) {
        java.math.BigInteger x = java.math.BigInteger.valueOf(seed);
        for (int k = 0; k < times; k++) {
            x = x.multiply(java.math.BigInteger.valueOf(1103515245)).add(java.math.BigInteger.valueOf(12345))
                    .mod(java.math.BigInteger.ONE.shiftLeft(31));
        }
        return x.intValueExact();
    }

    /** A draw of 0 is below 1, but not below 0, which the rain is if it is not told. */
    private static void chanceOfNought() {
        int seed = 0;
        while (drawn(seed, 1) / 64 % 100 != 0) {
            seed++;
        }
        String[] rains = {"", "rain 0;", "rain 1;", "rain 50;rain 0;", "rain 0;rain 1;"};
        int[] due = {0, 0, 1, 0, 1};
        for (int k = 0; k < rains.length; k++) {
            SilentReel x = Check.of(TWO + "frame 1 a 1;" + rains[k]);
            x.seed(seed);
            Check.due("chance(1) by a draw of 0, " + rains[k], x.chance(1), due[k]);
        }
    }

    /** A cut frame is not seen by those who watch, and the reel is empty on the days behind the first. */
    private static void chanceOfMany() {
        for (int seed = 0; seed < 40; seed++) {
            SilentReel x = Check.of("place a;place b;road a to b;person p at a kind 1;watch p;rain 50;"
                    + "frame 1 b 1;frame 2 b 1;frame 3 b 1;stays step>3;goes if(shown=1,5,0-far);");
            Check.due("seed(" + seed + ")", x.seed(seed), true);
            boolean rains = drawn(seed, 1) / 64 % 100 < 50;
            int which = drawn(seed, 2) / 64 % 3;
            Check.due("where(0, 3) with all three", x.where(0, 3), 1);
            Check.due("chance(5) by seed " + seed, x.chance(5), rains ? 1 : 0);
            Check.due("has(10)", x.has(10), drawn(seed, rains ? 6 : 5));
            Check.due("kept(0, 1)", x.kept(0, 1), rains ? 2 : 3);
            Check.due("kept(0, 2)", x.kept(0, 2), rains ? 2 : 3);
            Check.due("person(0, 0)", x.person(0, 0), rains && which == 2 ? 0 : 1);
            Check.due("has(9)", x.has(9), 1);
            Check.due("has(7)", x.has(7), 5);
        }
    }

    private static void chanceUndone() {
        SilentReel x = Check.of(TWO + "stays all;frame 1 a 1;frame 2 a 0;rain 19;");
        x.chance(3);
        int seed = x.has(10);
        Check.due("undo()", x.undo(), true);
        Check.due("has(3)", x.has(3), 0);
        Check.due("has(4)", x.has(4), 2);
        Check.due("has(7)", x.has(7), 0);
        Check.due("frame(1, 0)", x.frame(1, 0), 2);
        Check.due("has(10): the seed stays", x.has(10), seed);
        Check.due("undo() again", x.undo(), false);
    }

    private static void show() {
        SilentReel x = Check.of(TWO + "stays all;");
        Check.due("show(1, 0, 0)", x.show(1, 0, 0), true);
        Check.due("show(8, 1, 6)", x.show(8, 1, 6), true);
        Check.due("frame(0, 0)", x.frame(0, 0), 1);
        Check.due("frame(1, 0)", x.frame(1, 0), 8);
        Check.due("frame(1, 1)", x.frame(1, 1), 1);
        Check.due("frame(1, 2)", x.frame(1, 2), 6);
        int[][] bad = {{1, 0, 0}, {1, 0, 1}, {8, 1, 1}, {0, 0, 0}, {9, 0, 0}, {-1, 0, 0}, {2, -1, 0}, {2, 2, 0},
            {2, 0, -1}, {2, 0, 7}, {Integer.MAX_VALUE, 0, 0}, {Integer.MIN_VALUE, 0, 0}, {2, Integer.MAX_VALUE, 0},
            {2, Integer.MIN_VALUE, 0}, {2, 0, Integer.MAX_VALUE}, {2, 0, Integer.MIN_VALUE}};
        for (int k = 0; k < bad.length; k++) {
            Check.due("show " + java.util.Arrays.toString(bad[k]), x.show(bad[k][0], bad[k][1], bad[k][2]), false);
            Check.due("status(3)", x.status(3), k + 1);
        }
        Check.due("has(4)", x.has(4), 2);
        Check.due("has(9)", x.has(9), 2);
        for (int step = 2; step <= 7; step++) {
            Check.due("show(" + step + ", 0, 1)", x.show(step, 0, 1), true);
        }
        Check.due("a ninth", x.show(8, 0, 1), false);
        Check.due("has(4) of eight", x.has(4), 8);
        Check.due("has(6) of eight", x.has(6), 6);
        x.cut(0);
        Check.due("the place is free again", x.show(1, 0, 1), true);
        Check.due("it is behind all", x.frame(7, 0), 1);
        Check.due("show without a town", new SilentReel().show(1, 0, 0), false);
    }

    private static void cut() {
        SilentReel x = Check.of(TWO + "frame 1 a 1;frame 2 a 2;frame 3 a 3;frame 4 a 4;");
        Check.due("cut(4)", x.cut(4), false);
        for (int odd : ODD) {
            Check.due("cut(" + odd + ")", x.cut(odd), false);
        }
        Check.due("status(3)", x.status(3), ODD.length + 1);
        Check.due("cut(1)", x.cut(1), true);
        Check.due("has(4)", x.has(4), 3);
        Check.due("frame(0, 0)", x.frame(0, 0), 1);
        Check.due("frame(1, 0)", x.frame(1, 0), 3);
        Check.due("frame(1, 2)", x.frame(1, 2), 3);
        Check.due("frame(2, 0)", x.frame(2, 0), 4);
        Check.due("frame(3, 0)", x.frame(3, 0), -1);
        Check.due("cut(2)", x.cut(2), true);
        Check.due("cut(0)", x.cut(0), true);
        Check.due("frame(0, 0) left", x.frame(0, 0), 3);
        Check.due("cut(0) of the last", x.cut(0), true);
        Check.due("cut(0) of none", x.cut(0), false);
        Check.due("has(9)", x.has(9), 4);
    }

    private static void watch() {
        SilentReel x = Check.of(TWO + "watch q;frame 1 b 4;stays step>1;goes if(shown=4,5,0-far);");
        Check.due("where(0, 1) unwatched", x.where(0, 1), 0);
        Check.due("watch(0, 1)", x.watch(0, 1), true);
        Check.due("where(0, 1) watching", x.where(0, 1), 1);
        Check.due("person(0, 2)", x.person(0, 2), 1);
        Check.due("watch(0, 1) again", x.watch(0, 1), false);
        Check.due("watch(1, 1) already", x.watch(1, 1), false);
        Check.due("watch(1, 0)", x.watch(1, 0), true);
        Check.due("watch(1, 0) again", x.watch(1, 0), false);
        Check.due("has(5)", x.has(5), 1);
        Check.due("watch(1, 2)", x.watch(1, 2), false);
        Check.due("watch(1, -1)", x.watch(1, -1), false);
        Check.due("watch(1, MAX)", x.watch(1, Integer.MAX_VALUE), false);
        Check.due("watch(0, 2) of one who watches", x.watch(0, 2), false);
        Check.due("watch(0, -1) of one who watches", x.watch(0, -1), false);
        Check.due("person(0, 2) stays", x.person(0, 2), 1);
        Check.due("watch(2, 1)", x.watch(2, 1), false);
        Check.due("watch(-1, 1)", x.watch(-1, 1), false);
        Check.due("watch(32, 1)", x.watch(32, 1), false);
        Check.due("status(3)", x.status(3), 11);
        Check.due("has(9)", x.has(9), 2);
    }

    private static void send() {
        SilentReel x = Check.of("place a;place b;place c;person p at a kind 1;stays all;");
        Check.due("send(0, 0): he is there", x.send(0, 0), false);
        Check.due("send(0, 3)", x.send(0, 3), false);
        Check.due("send(0, -1)", x.send(0, -1), false);
        Check.due("send(1, 0)", x.send(1, 0), false);
        Check.due("send(-1, 0)", x.send(-1, 0), false);
        Check.due("send(0, MAX)", x.send(0, Integer.MAX_VALUE), false);
        Check.due("send(MIN, 0)", x.send(Integer.MIN_VALUE, 0), false);
        Check.due("status(3)", x.status(3), 7);
        Check.due("has(9)", x.has(9), 0);
        Check.due("send(0, 2): no road is needed", x.send(0, 2), true);
        Check.due("person(0, 0)", x.person(0, 0), 2);
        Check.due("where(0, 8)", x.where(0, 8), 2);
        Check.due("who(2, 3)", x.who(2, 3), 1);
        Check.due("has(3): the day stays", x.has(3), 0);
    }

    private static void undo() {
        SilentReel x = Check.of(TWO + "watch q;frame 1 a 1;frame 2 b 2;stays all;");
        x.show(5, 0, 5);
        x.cut(0);
        x.watch(0, 1);
        x.send(1, 0);
        x.days(2);
        Check.due("refused ones are no acts", x.cut(0), false);
        Check.due("has(9)", x.has(9), 5);
        Check.due("undo() of days", x.undo(), true);
        Check.due("has(3)", x.has(3), 0);
        Check.due("has(4)", x.has(4), 2);
        Check.due("has(7)", x.has(7), 0);
        Check.due("where(1, 3)", x.where(1, 3), 0);
        Check.due("undo() of send", x.undo(), true);
        Check.due("person(1, 0)", x.person(1, 0), 1);
        Check.due("where(1, 3) again", x.where(1, 3), 1);
        Check.due("undo() of watch", x.undo(), true);
        Check.due("person(0, 2)", x.person(0, 2), 0);
        Check.due("person(1, 2)", x.person(1, 2), 1);
        Check.due("undo() of cut", x.undo(), true);
        Check.due("has(4) again", x.has(4), 3);
        Check.due("frame(0, 0)", x.frame(0, 0), 1);
        Check.due("frame(1, 0)", x.frame(1, 0), 2);
        Check.due("undo() of show", x.undo(), true);
        Check.due("has(4) at first", x.has(4), 2);
        Check.due("undo() of none", x.undo(), false);
        Check.due("undo() of none again", x.undo(), false);
        Check.due("status(4)", x.status(4), 2);
        Check.due("has(9) at last", x.has(9), 0);
    }

    private static void undoTwenty() {
        SilentReel x = Check.of(TWO + "stays all;");
        for (int k = 0; k < 25; k++) {
            x.send(0, 1 - k % 2);
            Check.due("has(9)", x.has(9), Math.min(20, k + 1));
        }
        for (int k = 0; k < 20; k++) {
            Check.due("undo() " + k, x.undo(), true);
            Check.due("person(0, 0)", x.person(0, 0), k % 2);
        }
        Check.due("undo() of the 21st", x.undo(), false);
        Check.due("person(0, 0) at last", x.person(0, 0), 1);
        x.send(0, 0);
        Check.due("undo() of a new one", x.undo(), true);
        Check.due("person(0, 0) again", x.person(0, 0), 1);
        Check.due("undo() of no more", x.undo(), false);
    }

    private static void undoOfDays() {
        SilentReel x = Check.of(TWO + "stays all;");
        x.days(30);
        x.show(1, 0, 1);
        x.days(30);
        Check.due("has(7)", x.has(7), 40);
        Check.due("kept(0, 0)", x.kept(0, 0), 20);
        Check.due("kept(10, 1)", x.kept(10, 1), 1);
        x.undo();
        Check.due("has(7) behind undo()", x.has(7), 30);
        Check.due("kept(0, 0) behind undo()", x.kept(0, 0), 0);
        Check.due("kept(29, 0) behind undo()", x.kept(29, 0), 29);
        Check.due("kept(30, 0) behind undo()", x.kept(30, 0), -1);
        Check.due("has(4) behind undo()", x.has(4), 1);
        x.cut(0);
        x.days(1);
        Check.due("kept(30, 1) without the frame", x.kept(30, 1), 0);
    }

    private static void seed() {
        SilentReel x = Check.of(TWO);
        Check.due("seed(0)", x.seed(0), true);
        Check.due("has(10)", x.has(10), 0);
        x.chance(1);
        Check.due("has(10) behind a draw from 0", x.has(10), 12345);
        Check.due("seed(-1)", x.seed(-1), false);
        Check.due("seed(MIN)", x.seed(Integer.MIN_VALUE), false);
        Check.due("status(5)", x.status(5), 2);
        Check.due("has(10) stays", x.has(10), 12345);
        Check.due("seed(MAX)", x.seed(Integer.MAX_VALUE), true);
        Check.due("has(10) MAX", x.has(10), Integer.MAX_VALUE);
        x.chance(1);
        Check.due("has(10) behind a draw from MAX", x.has(10), drawn(Integer.MAX_VALUE, 1));
        Check.due("seed is no act", x.has(9), 2);
        x.undo();
        Check.due("has(10) behind undo()", x.has(10), drawn(Integer.MAX_VALUE, 1));
    }

    private static void kept() {
        SilentReel x = Check.of(TWO + "stays all;frame 1 a 1;frame 2 a 1;frame 3 a 0;");
        Check.due("kept(0, 0) of none", x.kept(0, 0), -1);
        x.days(1);
        x.show(4, 1, 2);
        x.chance(1);
        int[][] due = {{0, 3, 2}, {1, 1, 0}};
        for (int k = 0; k < 2; k++) {
            for (int what = 0; what < 3; what++) {
                Check.due("kept(" + k + ", " + what + ")", x.kept(k, what), due[k][what]);
            }
            Check.due("kept(" + k + ", 3)", x.kept(k, 3), -1);
            Check.due("kept(" + k + ", -1)", x.kept(k, -1), -1);
        }
        Check.due("kept(2, 0)", x.kept(2, 0), -1);
        for (int odd : ODD) {
            Check.due("kept(" + odd + ", 0)", x.kept(odd, 0), -1);
            Check.due("kept(0, " + odd + ")", x.kept(0, odd), -1);
        }
    }

    private static void keptForty() {
        SilentReel x = Check.of(TWO + "stays all;");
        for (int day = 0; day < 45; day++) {
            x.show(1, 0, day % 2);
            x.days(1);
        }
        Check.due("has(7)", x.has(7), 40);
        for (int k = 0; k < 40; k++) {
            Check.due("kept(" + k + ", 0)", x.kept(k, 0), k + 5);
            Check.due("kept(" + k + ", 1)", x.kept(k, 1), 1);
            Check.due("kept(" + k + ", 2)", x.kept(k, 2), (k + 5) % 2);
        }
        Check.due("kept(40, 0)", x.kept(40, 0), -1);
    }
}
