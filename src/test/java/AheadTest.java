/** Promises 18 (later), 19 (meet), 20 (round). */
public final class AheadTest {
    private static final int[] ODD = {Integer.MIN_VALUE, -2, -1, 41, 100, Integer.MAX_VALUE};
    private static final String TWO = "place a;place b;road a to b;";

    public static void main(String[] args) {
        later();
        laterByReel();
        meet();
        meetWithin();
        round();
        roundOfTwo();
        lastDays();
        Check.finish();
    }

    private static void later() {
        SilentReel x = Check.of(TWO + "person p at a kind 1;person q at b kind 1;stays day<2 or day>3;goes far;");
        int[] due = {0, 0, 0, 1, 0, 0};
        for (int n = 0; n < due.length; n++) {
            Check.due("later(0, " + n + ")", x.later(0, n), due[n]);
            Check.due("later(1, " + n + ")", x.later(1, n), 1 - due[n]);
            Check.due("later(2, " + n + ")", x.later(2, n), -1);
        }
        Check.due("later(0, 40)", x.later(0, 40), 0);
        for (int odd : ODD) {
            Check.due("later(0, " + odd + ")", x.later(0, odd), -1);
            Check.due("later(" + odd + ", 0)", x.later(odd, 0), -1);
        }
        Check.due("has(3) stays", x.has(3), 0);
        Check.due("where(0, 0) stays", x.where(0, 0), 0);
        SilentReel late = Check.of(TWO + "person p at a kind 1;stays day<39;goes far;");
        Check.due("later(0, 39)", late.later(0, 39), 0);
        Check.due("later(0, 40) then", late.later(0, 40), 1);
        late.days(5);
        Check.due("later(0, 34) from day 5 on", late.later(0, 34), 0);
        Check.due("later(0, 35) from day 5 on", late.later(0, 35), 1);
        Check.due("later(0, 36) from day 5 on", late.later(0, 36), 0);
    }

    /** The reel is of this day alone, and no rain falls. */
    private static void laterByReel() {
        SilentReel x = Check.of(TWO + "person p at a kind 1;watch p;frame 1 b 3;rain 100;"
                + "stays step>1;goes if(shown=3,5,0-far);");
        Check.due("later(0, 1)", x.later(0, 1), 1);
        Check.due("later(0, 2)", x.later(0, 2), 1);
        Check.due("has(4) stays", x.has(4), 1);
        Check.due("has(10) stays", x.has(10), 1);
    }

    private static void meet() {
        String two = TWO + "person p at a kind 1;person q at b kind 0;";
        SilentReel x = Check.of(two + "stays day<2;goes if(kind=1,far,0-far);");
        Check.due("meet(0, 1)", x.meet(0, 1), 3);
        Check.due("meet(1, 0)", x.meet(1, 0), 3);
        Check.due("meet(0, 0)", x.meet(0, 0), -1);
        Check.due("meet(0, 2)", x.meet(0, 2), -1);
        Check.due("meet(2, 0)", x.meet(2, 0), -1);
        for (int odd : ODD) {
            Check.due("meet(0, " + odd + ")", x.meet(0, odd), -1);
            Check.due("meet(" + odd + ", 1)", x.meet(odd, 1), -1);
        }
        x.days(2);
        Check.due("meet(0, 1) on day 2", x.meet(0, 1), 1);
        Check.due("meet(0, 1) in the 40th", Check.of(two + "stays day<39;goes if(kind=1,far,0-far);").meet(0, 1), 40);
        Check.due("meet(0, 1) in the 41st", Check.of(two + "stays day<40;goes if(kind=1,far,0-far);").meet(0, 1), -1);
        Check.due("meet(0, 1) of those who stay", Check.of(two + "stays all;").meet(0, 1), -1);
    }

    /** Only one step of the day brings them together; where they are as it begins does not count. */
    private static void meetWithin() {
        SilentReel x = Check.of("place a;place b;place c;road a to b;road b to c;person p at a kind 1;"
                + "person q at b kind 2;stays kind=2;goes if(step<5,far,0-far);");
        Check.due("where(0, 1)", x.where(0, 1), 1);
        Check.due("where(0, 8)", x.where(0, 8), 0);
        Check.due("meet(0, 1)", x.meet(0, 1), 1);
        String two = TWO + "person p at a kind 1;person q at b kind 2;";
        Check.due("meet(0, 1) behind step 1 alone", Check.of(two
                + "stays kind=2 or step>2;goes if(step=1,far,0-far);").meet(0, 1), 1);
        Check.due("meet(0, 1) behind step 8 alone", Check.of(two
                + "stays kind=2 or step<8 or day>4;goes if(day=4,far,0-far);").meet(0, 1), 5);
        SilentReel apart = Check.of(TWO + "person p at a kind 1;person q at a kind 2;stays kind=2;"
                + "goes if(day=0,far,0-far);");
        Check.due("meet(0, 1) of those who part at once", apart.meet(0, 1), -1);
    }

    private static void round() {
        Check.due("round() of those who stay", Check.of(TWO + "person p at a kind 1;stays all;").round(), 1);
        SilentReel x = Check.of(TWO + "person p at a kind 1;goes far;");
        Check.due("round() to and fro", x.round(), 2);
        Check.due("round() leaves him", x.where(0, 0), 0);
        Check.due("has(3) stays", x.has(3), 0);
        Check.due("round() never", Check.of(TWO + "person p at b kind 1;").round(), -1);
        Check.due("round() of nobody", Check.of(TWO).round(), 1);
        String away = TWO + "person p at a kind 1;stays day>0 and day<";
        Check.due("round() behind 40", Check.of(away + "39;goes far;").round(), 40);
        Check.due("round() behind 41", Check.of(away + "40;goes far;").round(), -1);
    }

    private static void roundOfTwo() {
        SilentReel x = Check.of(TWO + "person p at a kind 1;person q at a kind 2;"
                + "stays step>1 or kind=2 and day%2=1;goes far;");
        Check.due("round() of two", x.round(), 4);
        x.days(1);
        Check.due("round() from day 1 on", x.round(), 4);
    }

    private static void lastDays() {
        SilentReel x = Check.of(TWO + "person p at a kind 1;person q at b kind 2;stays kind=2 or day<998;goes far;");
        for (int k = 0; k < 24; k++) {
            x.days(40);
        }
        x.days(37);
        Check.due("has(3)", x.has(3), 997);
        Check.due("later(0, 1)", x.later(0, 1), 0);
        Check.due("later(0, 2)", x.later(0, 2), 1);
        Check.due("later(0, 3)", x.later(0, 3), -1);
        Check.due("meet(0, 1)", x.meet(0, 1), 2);
        Check.due("round()", x.round(), 1);
        x.days(1);
        Check.due("round() on day 998", x.round(), -1);
        x.days(1);
        Check.due("has(3) at last", x.has(3), 999);
        Check.due("later(0, 0) on day 999", x.later(0, 0), 1);
        Check.due("later(0, 1) on day 999", x.later(0, 1), -1);
        Check.due("meet(0, 1) on day 999", x.meet(0, 1), -1);
        Check.due("round() on day 999", x.round(), -1);
        Check.due("where(0, 8) on day 999", x.where(0, 8), 0);
    }
}
