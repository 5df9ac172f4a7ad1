/** Promises 6 (has), 7 (letter), 8 (far), 9 (person), 10 (frame). */
public final class TownTest {
    private static final int[] ODD = {Integer.MIN_VALUE, -2, -1, 7, 8, 100, Integer.MAX_VALUE};

    public static void main(String[] args) {
        has();
        letter();
        far();
        person();
        frame();
        Check.finish();
    }

    private static SilentReel some() {
        return Check.of("place a;place b;place c;road a to b;road c to b;"
                + "person p at b kind 0;person q at c kind 9;person r at b kind 4;watch r;watch q;"
                + "frame 8 c 1;frame 1 b 2;frame 3 a 0;frame 3 b 6;stays all;rain 20;");
    }

    private static void has() {
        SilentReel x = some();
        int[] due = {3, 2, 3, 0, 4, 2, 3, 0, 0, 0, 1};
        for (int what = 0; what < due.length; what++) {
            Check.due("has(" + what + ")", x.has(what), due[what]);
        }
        Check.due("has(11)", x.has(11), -1);
        Check.due("has(-1)", x.has(-1), -1);
        Check.due("has(MAX)", x.has(Integer.MAX_VALUE), -1);
        Check.due("has(MIN)", x.has(Integer.MIN_VALUE), -1);
        x.watch(0, 1);
        x.send(0, 2);
        x.show(7, 2, 2);
        x.seed(5);
        Check.put(x, 1, 0, 0, 1, 1, 0);
        x.see();
        int[] then = {3, 2, 3, 0, 5, 3, 2, 0, 2, 3, 5};
        for (int what = 0; what < then.length; what++) {
            Check.due("then has(" + what + ")", x.has(what), then[what]);
        }
        x.days(3);
        Check.due("has(3) behind days", x.has(3), 3);
        Check.due("has(4) behind days", x.has(4), 0);
        Check.due("has(6) behind days", x.has(6), 0);
        Check.due("has(7) behind days", x.has(7), 3);
        Check.due("has(9) behind days", x.has(9), 4);
    }

    private static void letter() {
        SilentReel x = Check.of("place azbycx;place q;person hello at q kind 1;");
        int[] first = {1, 26, 2, 25, 3, 24};
        int[] person = {8, 5, 12, 12, 15, 0};
        for (int k = 0; k < 6; k++) {
            Check.due("letter(0, 0, " + k + ")", x.letter(0, 0, k), first[k]);
            Check.due("letter(0, 1, " + k + ")", x.letter(0, 1, k), k == 0 ? 17 : 0);
            Check.due("letter(1, 0, " + k + ")", x.letter(1, 0, k), person[k]);
            Check.due("letter(0, 2, " + k + ")", x.letter(0, 2, k), -1);
            Check.due("letter(1, 1, " + k + ")", x.letter(1, 1, k), -1);
            Check.due("letter(2, 0, " + k + ")", x.letter(2, 0, k), -1);
            Check.due("letter(-1, 0, " + k + ")", x.letter(-1, 0, k), -1);
        }
        for (int odd : ODD) {
            Check.due("letter(0, 0, " + odd + ")", x.letter(0, 0, odd), -1);
            Check.due("letter(1, 0, " + odd + ")", x.letter(1, 0, odd), -1);
            Check.due("letter(0, " + odd + ", 0)", x.letter(0, odd, 0), -1);
            Check.due("letter(1, " + odd + ", 0)", x.letter(1, odd, 0), -1);
            Check.due("letter(" + odd + ", 0, 0)", x.letter(odd, 0, 0), -1);
        }
        Check.due("letter(0, 0, 6)", x.letter(0, 0, 6), -1);
    }

    private static void far() {
        // a - b - c - d - e, a - d; f - g apart
        SilentReel x = Check.of("place a;place b;place c;place d;place e;place f;place g;"
                + "road a to b;road b to c;road d to c;road d to e;road f to g;");
        int[][] due = {
            {0, 1, 2, 3, 4, -1, -1}, {1, 0, 1, 2, 3, -1, -1}, {2, 1, 0, 1, 2, -1, -1}, {3, 2, 1, 0, 1, -1, -1},
            {4, 3, 2, 1, 0, -1, -1}, {-1, -1, -1, -1, -1, 0, 1}, {-1, -1, -1, -1, -1, 1, 0}};
        for (int from = 0; from < 7; from++) {
            for (int to = 0; to < 7; to++) {
                Check.due("far(" + from + ", " + to + ")", x.far(from, to), due[from][to]);
            }
            for (int odd : ODD) {
                Check.due("far(" + from + ", " + odd + ")", x.far(from, odd), -1);
                Check.due("far(" + odd + ", " + from + ")", x.far(odd, from), -1);
            }
        }
        SilentReel row = Check.of("place a;place b;place c;place d;place e;place f;place g;"
                + "road a to b;road b to c;road c to d;road d to e;road e to f;road f to g;");
        Check.due("far along a row", row.far(0, 6), 6);
        Check.town(row, "place a;place b;place c;");
        Check.due("far where no road is any more", row.far(0, 1), -1);
        Check.due("far to a place that is no more", row.far(0, 3), -1);
    }

    private static void person() {
        SilentReel x = some();
        int[][] due = {{1, 0, 0}, {2, 9, 1}, {1, 4, 1}};
        for (int person = 0; person < 3; person++) {
            for (int what = 0; what < 3; what++) {
                Check.due("person(" + person + ", " + what + ")", x.person(person, what), due[person][what]);
            }
            Check.due("person(" + person + ", 3)", x.person(person, 3), -1);
            Check.due("person(" + person + ", -1)", x.person(person, -1), -1);
        }
        Check.due("person(3, 0)", x.person(3, 0), -1);
        for (int odd : ODD) {
            Check.due("person(" + odd + ", 0)", x.person(odd, 0), -1);
            Check.due("person(0, " + odd + ")", x.person(0, odd), -1);
        }
        x.send(0, 0);
        x.watch(1, 0);
        Check.due("person(0, 0) sent", x.person(0, 0), 0);
        Check.due("person(1, 2) no more", x.person(1, 2), 0);
    }

    /** All stay: two in b (persons 0 and 2), one in c (person 1). */
    private static void frame() {
        SilentReel x = some();
        int[][] due = {{8, 2, 1, 1, 2}, {1, 1, 2, 1, 5}, {3, 0, 0, 1, 0}, {3, 1, 6, 0, 5}};
        for (int k = 0; k < 4; k++) {
            for (int what = 0; what < 5; what++) {
                Check.due("frame(" + k + ", " + what + ")", x.frame(k, what), due[k][what]);
            }
            Check.due("frame(" + k + ", 5)", x.frame(k, 5), -1);
            Check.due("frame(" + k + ", -1)", x.frame(k, -1), -1);
        }
        Check.due("frame(4, 0)", x.frame(4, 0), -1);
        for (int odd : ODD) {
            Check.due("frame(" + odd + ", 0)", x.frame(odd, 0), -1);
            Check.due("frame(0, " + odd + ")", x.frame(0, odd), -1);
        }
        x.send(2, 2);
        Check.due("frame(0, 3) then", x.frame(0, 3), 0);
        Check.due("frame(0, 4) then", x.frame(0, 4), 6);
        Check.due("frame(1, 3) then", x.frame(1, 3), 0);
        Check.due("frame(1, 4) then", x.frame(1, 4), 1);
    }
}
