/** Promises 11 (where), 12 (who), 13 (agrees), 14 (self), 15 (cuts), 16 (crowd), 17 (empty). */
public final class DayTest {
    private static final int[] ODD = {Integer.MIN_VALUE, -2, -1, 9, 10, 100, Integer.MAX_VALUE};
    /** One who watches goes where one is shown, at step 1 alone, or else stays where he is. */
    private static final String BY_ONE = "stays step>1;goes if(shown=1,5,0-far);";

    public static void main(String[] args) {
        whereAndWho();
        agrees();
        self();
        selfOfNinth();
        selfInPlace();
        cuts();
        fewestCuts();
        crowd();
        fewestWatchers();
        empty();
        Check.finish();
    }

    private static void whereAndWho() {
        SilentReel x = Check.of("place a;place b;place c;road a to b;"
                + "person p at a kind 1;person q at b kind 2;person r at c kind 0;goes 0-there;");
        for (int step = 0; step <= 8; step++) {
            int p = step == 0 ? 0 : (step + 1) % 2;
            int q = step == 0 ? 1 : p;
            Check.due("where(0, " + step + ")", x.where(0, step), p);
            Check.due("where(1, " + step + ")", x.where(1, step), q);
            Check.due("where(2, " + step + ")", x.where(2, step), 2);
            Check.due("who(0, " + step + ")", x.who(0, step), (p == 0 ? 1 : 0) + (q == 0 ? 2 : 0));
            Check.due("who(1, " + step + ")", x.who(1, step), (p == 1 ? 1 : 0) + (q == 1 ? 2 : 0));
            Check.due("who(2, " + step + ")", x.who(2, step), 4);
            Check.due("where(3, " + step + ")", x.where(3, step), -1);
            Check.due("who(3, " + step + ")", x.who(3, step), -1);
        }
        for (int odd : ODD) {
            Check.due("where(0, " + odd + ")", x.where(0, odd), -1);
            Check.due("where(" + odd + ", 0)", x.where(odd, 0), -1);
            Check.due("who(0, " + odd + ")", x.who(0, odd), -1);
            Check.due("who(" + odd + ", 0)", x.who(odd, 0), -1);
        }
        x.days(1);
        Check.due("where(0, 0) behind a day", x.where(0, 0), 1);
        Check.due("where(0, 1) behind a day", x.where(0, 1), 0);
        Check.due("who(1, 0) behind a day", x.who(1, 0), 3);
    }

    private static void agrees() {
        SilentReel x = Check.of("place a;place b;person p at a kind 1;stays all;");
        Check.due("agrees() without frames", x.agrees(), 1);
        x.show(1, 0, 1);
        Check.due("agrees() with one that is true", x.agrees(), 1);
        x.show(8, 1, 0);
        Check.due("agrees() with two", x.agrees(), 1);
        x.show(5, 0, 2);
        Check.due("agrees() with one that is not", x.agrees(), 0);
        x.cut(2);
        Check.due("agrees() without it", x.agrees(), 1);
        x.send(0, 1);
        Check.due("agrees() when he is sent", x.agrees(), 0);
    }

    private static void self() {
        SilentReel x = Check.of("place a;place b;road a to b;person p at a kind 1;watch p;goes if(shown=1,5,0);");
        Check.due("self(1, 1)", x.self(1, 1), 3);
        Check.due("self(1, 0)", x.self(1, 0), 2);
        Check.due("self(8, 1)", x.self(8, 1), 3);
        Check.due("has(4) stays", x.has(4), 0);
        Check.due("self(1, 2)", x.self(1, 2), -1);
        Check.due("self(0, 0)", x.self(0, 0), -1);
        for (int odd : ODD) {
            Check.due("self(" + odd + ", 0)", x.self(odd, 0), -1);
            Check.due("self(1, " + odd + ")", x.self(1, odd), -1);
        }
        x.watch(0, 0);
        Check.due("self(1, 1) unwatched", x.self(1, 1), 1);
        Check.due("self(1, 0) unwatched", x.self(1, 0), 2);
        SilentReel six = Check.of("place a;person p at a kind 1;person q at a kind 1;person r at a kind 1;"
                + "person s at a kind 1;person t at a kind 1;person u at a kind 1;");
        Check.due("self(4, 0) of six", six.self(4, 0), 64);
        SilentReel none = Check.of("place a;place b;road a to b;person p at a kind 1;watch p;"
                + "goes if(shown=0,5,0-far);");
        Check.due("self(1, 1): he goes there only if nobody is shown there", none.self(1, 1), 0);
    }

    private static void selfOfNinth() {
        SilentReel x = Check.of("place a;place b;road a to b;person p at a kind 1;watch p;goes if(shown=1,5,0);"
                + "frame 2 b 0;frame 3 b 0;frame 4 b 0;frame 5 b 0;frame 6 b 0;frame 7 b 0;frame 8 b 0;frame 8 a 6;");
        Check.due("self(1, 1) with eight", x.self(1, 1), 3);
        Check.due("self(1, 0) with eight", x.self(1, 0), 2);
        Check.due("has(4)", x.has(4), 8);
        Check.due("frame(7, 2)", x.frame(7, 2), 6);
        Check.due("frame(8, 2)", x.frame(8, 2), -1);
        Check.due("show(1, 0, 1): no ninth", x.show(1, 0, 1), false);
    }

    private static void selfInPlace() {
        SilentReel x = Check.of("place a;place b;road a to b;person p at a kind 1;watch p;frame 1 b 5;frame 2 a 3;"
                + "goes if(shown=1,5,0);");
        Check.due("self(1, 1)", x.self(1, 1), 3);
        Check.due("frame(0, 2)", x.frame(0, 2), 5);
        Check.due("has(4)", x.has(4), 2);
        Check.due("where(0, 1)", x.where(0, 1), 0);
        Check.due("self(2, 0): other frames need not be true", x.self(2, 0), 2);
    }

    private static void cuts() {
        SilentReel x = Check.of("place a;place b;person p at a kind 1;stays all;");
        Check.due("cuts() without frames", x.cuts(), 0);
        x.show(1, 0, 1);
        Check.due("cuts() of none: it agrees", x.cuts(), 0);
        x.show(2, 0, 0);
        x.show(3, 0, 1);
        x.show(4, 1, 1);
        Check.due("cuts() of those that are not true", x.cuts(), 10);
        Check.due("has(4)", x.has(4), 4);
        x.show(5, 1, 1);
        x.show(6, 1, 1);
        x.show(7, 1, 1);
        x.show(8, 1, 1);
        Check.due("cuts() of eight", x.cuts(), 250);
        x.cut(0);
        x.cut(0);
        Check.due("cuts() of six", x.cuts(), 62);
        SilentReel all = Check.of("place a;frame 1 a 1;frame 2 a 2;");
        Check.due("cuts() of all", all.cuts(), 3);
    }

    /** By frame 1 b 1 he goes to b: then no frame behind it that shows nobody there is true. */
    private static void fewestCuts() {
        String two = "place a;place b;place c;road a to b;person p at a kind 1;watch p;" + BY_ONE;
        Check.due("cuts(): either of two", Check.of(two + "frame 5 c 0;frame 1 b 1;frame 2 b 0;").cuts(), 2);
        Check.due("cuts(): the other order", Check.of(two + "frame 2 b 0;frame 5 c 0;frame 1 b 1;").cuts(), 1);
        Check.due("cuts(): one for two", Check.of(two + "frame 2 b 0;frame 3 b 0;frame 1 b 1;").cuts(), 4);
        Check.due("cuts(): one that is true", Check.of(two + "frame 2 b 0;frame 3 a 1;frame 1 b 1;").cuts(), 4);
        Check.due("agrees() with it", Check.of(two + "frame 2 b 0;frame 3 a 1;frame 1 b 1;").agrees(), 0);
    }

    private static void crowd() {
        String two = "place a;place b;road a to b;person p at a kind 1;person q at a kind 1;";
        SilentReel one = Check.of(two + "watch p;watch q;frame 1 b 1;" + BY_ONE);
        Check.due("crowd(): either of two", one.crowd(), 1);
        Check.due("has(5) stays", one.has(5), 2);
        Check.due("agrees() with both", one.agrees(), 0);
        Check.due("crowd(): nobody is best", Check.of(two + "watch p;frame 1 b 0;" + BY_ONE).crowd(), 0);
        Check.due("crowd(): none at all", Check.of(two + "frame 1 b 2;" + BY_ONE).crowd(), -1);
        String shown = "stays step>1;goes if(shown<9,5,0-far);";
        Check.due("crowd(): both", Check.of(two + "frame 1 b 2;" + shown).crowd(), 3);
        Check.due("crowd() without frames", Check.of(two).crowd(), 0);
        Check.due("crowd(): the second", Check.of("place a;place b;road a to b;person p at b kind 1;"
                + "person q at a kind 1;frame 1 b 2;" + shown).crowd(), 2);
        SilentReel nobody = Check.of("place a;frame 1 a 1;");
        Check.due("crowd() of nobody", nobody.crowd(), -1);
        nobody.cut(0);
        Check.due("crowd() of nobody without frames", nobody.crowd(), 0);
    }

    /** Either p and q together, each one step of the way, or r alone, who goes both. */
    private static void fewestWatchers() {
        SilentReel x = Check.of("place a;place b;place c;place d;road a to b;road b to c;road c to d;"
                + "person p at a kind 1;person q at d kind 2;person r at a kind 3;frame 1 b 1;frame 2 c 1;"
                + "stays kind=1 and step>1 or kind=2 and step=1 or step>2;goes if(shown=1,5,0-far);");
        Check.due("crowd(): r alone", x.crowd(), 4);
        x.watch(0, 1);
        x.watch(1, 1);
        Check.due("agrees() by p and q", x.agrees(), 1);
        Check.due("crowd() again", x.crowd(), 4);
    }

    private static void empty() {
        SilentReel x = Check.of("place a;place b;place c;road a to b;person p at b kind 1;stays step=8;goes 0;");
        Check.due("empty(): b is left at step 1", x.empty(), 6);
        Check.due("who(1, 0)", x.who(1, 0), 1);
        SilentReel last = Check.of("place a;place b;place c;road a to b;person p at a kind 1;stays step<8;goes far;");
        Check.due("empty(): b is gone to at step 8", last.empty(), 4);
        last.send(0, 2);
        Check.due("empty() when he is in c", last.empty(), 3);
        SilentReel first = Check.of("place a;place b;place c;road a to b;person p at a kind 1;"
                + "stays step>2;goes if(step=1,far,0-far);");
        Check.due("empty(): b is gone to at step 1 alone", first.empty(), 4);
        Check.due("empty() of nobody", Check.of("place a;place b;").empty(), 3);
        Check.due("empty() of no place", new SilentReel().empty(), 0);
    }
}
