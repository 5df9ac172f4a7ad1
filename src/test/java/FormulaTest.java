/** Term I (sums and tests) and term II (who stays, who goes where), seen through promise 11 (where). */
public final class FormulaTest {
    public static void main(String[] args) {
        sums();
        bounds();
        division();
        tests();
        brackets();
        knownOfStays();
        shownOfStays();
        knownOfGoes();
        shownOfGoes();
        farWithoutWay();
        firstOfLikeOnes();
        allAtOnce();
        Check.finish();
    }

    private static void sums() {
        Texts.holds("2+3*4=14");
        Texts.holds("2*3+4=10");
        Texts.holds("(2+3)*4=20");
        Texts.holds("10-4-3=3");
        Texts.holds("10-(4-3)=9");
        Texts.holds("10-4+3=9");
        Texts.holds("100/10/5=2");
        Texts.holds("100/10*5=50");
        Texts.holds("100*10/5=200");
        Texts.holds("17%10%4=3");
        Texts.holds("20/3*3=18");
        Texts.holds("9999+1=100*100");
        Texts.holds("0007=7");
        Texts.holds("min(3,2)=2");
        Texts.holds("min(2,3)=2");
        Texts.holds("max(3,2)=3");
        Texts.holds("max(2,3)=3");
        Texts.holds("min(0-3,2)=0-3");
        Texts.holds("min(1+1,2*2)+max(1,5)*2=12");
        Texts.holds("if(1<2,7,8)=7");
        Texts.holds("if(2<1,7,8)=8");
        Texts.holds("if(all,if(not all,1,2),3)=2");
        Texts.holds("if(not all,if(not all,1,2),3)=3");
        Texts.holds("if(1=1 and 1=2,1,0)+if(1=1 or 1=2,2,0)=2");
        Texts.holds("kind=3");
        Texts.holds("kind*kind=9");
    }

    private static void bounds() {
        Texts.holds("9999*9999=1000*1000");
        Texts.holds("0-9999*9999=0-1000*1000");
        Texts.holds("9999*9999-1=1000*1000-1");
        Texts.holds("9999*(0-9999)+1=1-1000*1000");
        Texts.holds("9999*9999*9999=1000*1000");
        Texts.holds("1000*1000+1=1000*1000");
        Texts.holds("1000*1000+1-1=1000*1000-1");
        Texts.holds("0-1000*1000-1+1=1-1000*1000");
        Texts.holds("1000*999+1000=1000*1000");
        Texts.holds("9999*9999*(0-9999*9999)=0-1000*1000");
        Texts.holds("1000*1000/(0-1)=0-1000*1000");
        Texts.holds("(0-1000*1000)%(1000*1000-1)=1000*999+998");
    }

    private static void division() {
        Texts.holds("7/2=3");
        Texts.holds("(0-7)/2=0-4");
        Texts.holds("7/(0-2)=0-4");
        Texts.holds("(0-7)/(0-2)=3");
        Texts.holds("(0-6)/2=0-3");
        Texts.holds("7%2=1");
        Texts.holds("(0-7)%2=1");
        Texts.holds("7%(0-2)=0-1");
        Texts.holds("(0-7)%(0-2)=0-1");
        Texts.holds("(0-6)%3=0");
        Texts.holds("7/0=0");
        Texts.holds("7%0=0");
        Texts.holds("0/0=0");
        Texts.holds("(0-7)/0=0");
        Texts.holds("(0-7)%(1-1)=0");
        Texts.holds("5/9=0");
        Texts.holds("(0-5)/9=0-1");
    }

    private static void tests() {
        Texts.holds("all");
        Texts.holds("1<2");
        Texts.holds("2<1", false);
        Texts.holds("1<1", false);
        Texts.holds("2>1");
        Texts.holds("1>2", false);
        Texts.holds("1>1", false);
        Texts.holds("1=1");
        Texts.holds("1=2", false);
        Texts.holds("0-1<0");
        Texts.holds("1=1 or 1=1 and 1=2", true);
        Texts.holds("1=2 and 1=1 or 1=1", true);
        Texts.holds("1=2 and [1=1 or 1=1]", false);
        Texts.holds("[1=1 or 1=1] and 1=2", false);
        Texts.holds("1=2 or 1=2 or 1=1", true);
        Texts.holds("1=2 or 1=2", false);
        Texts.holds("all and all and all", true);
        Texts.holds("all and all and 1=2", false);
        Texts.holds("all and 1=2", false);
        Texts.holds("not all or all", true);
        Texts.holds("not all and 1=2 or all", true);
        Texts.holds("not 1=2 and 1=2", false);
        Texts.holds("not not all", true);
        Texts.holds("not not not all", false);
        Texts.holds("not [not all or not all]", true);
        Texts.holds("2 > 1 and 1 < 2 and kind = 3", true);
    }

    private static void brackets() {
        Texts.holds("(((((((1)))))))=1", true);
        Texts.holds("[[[[[[[all]]]]]]]", true);
        Texts.holds("not not not not not not all", true);
        Texts.holds("if(1=1,if(1=1,if(1=1,if(1=1,if(1=1,if(1=1,if(1+1*1=2 and 2=2 or 3=3,5,6),0),0),0),0),0),0)=5", true);
        Texts.holds("1+1*if(all and 1=1+1*if(all and 1=1+1*if(all and 1=1+1*if(all and 1=1+1*if(all and 1=1+1*if(all and 1=1"
                + "+1*if(1=2 or all and 1=1+1*0,0,1),0,1),0,1),0,1),0,1),0,1),0,1)=1", true);
        Texts.holds("min(1,min(2,min(3,min(4,min(5,min(6,min(8,7)))))))=1", true);
        Texts.holds("max(1,max(2,max(3,max(4,max(5,max(6,max(8,7)))))))=8", true);
    }

    private static void path(SilentReel x, int person, int... due) {
        for (int step = 0; step < due.length; step++) {
            Check.due("where(" + person + ", " + step + ")", x.where(person, step), due[step]);
        }
    }

    private static void knownOfStays() {
        String two = "place a;place b;road a to b;person p at a kind 1;";
        path(Check.of(two + "stays step<3;goes far;"), 0, 0, 0, 0, 1, 1, 1, 1, 1, 1);
        path(Check.of(two + "stays step<8;goes far;"), 0, 0, 0, 0, 0, 0, 0, 0, 0, 1);
        SilentReel x = Check.of(two + "stays day<2;goes far;");
        path(x, 0, 0, 0);
        x.days(1);
        path(x, 0, 0, 0);
        x.days(1);
        path(x, 0, 0, 1);
        String more = two + "person q at a kind 2;person r at b kind 2;";
        SilentReel two1 = Check.of(more + "stays here=2;goes far;");
        path(two1, 0, 0, 0);
        path(two1, 1, 0, 0);
        path(two1, 2, 1, 0);
        SilentReel one1 = Check.of(more + "stays here=1;goes far;");
        path(one1, 0, 0, 1);
        path(one1, 1, 0, 1);
        path(one1, 2, 1, 1);
        SilentReel kinds = Check.of(more + "stays kind=1;goes far;");
        path(kinds, 0, 0, 0);
        path(kinds, 1, 0, 1);
        path(kinds, 2, 1, 0);
    }

    /** What is shown in his own place behind this very step; 9 without, or if he does not watch. */
    private static void shownOfStays() {
        String two = "place a;place b;road a to b;person p at a kind 1;person q at a kind 1;watch p;"
                + "frame 3 a 4;frame 1 b 4;frame 2 b 4;";
        SilentReel x = Check.of(two + "stays not shown=4;goes far;");
        path(x, 0, 0, 0, 0, 1, 1);
        path(x, 1, 0, 0, 0, 0, 0);
        SilentReel nine = Check.of(two + "stays not shown=9;goes far;");
        path(nine, 0, 0, 1, 1);
        path(nine, 1, 0, 1, 1);
        SilentReel none = Check.of("place a;place b;road a to b;person p at a kind 1;watch p;frame 1 a 0;"
                + "stays shown=0;goes far;");
        path(none, 0, 0, 0, 1, 1);
    }

    /** A row a, b, c; three people. */
    private static void knownOfGoes() {
        String row = "place a;place b;place c;road a to b;road b to c;"
                + "person p at b kind 1;person q at c kind 2;person r at c kind 5;";
        SilentReel there = Check.of(row + "goes there;");
        path(there, 0, 1, 2, 2);
        path(there, 1, 2, 2, 2);
        SilentReel lonely = Check.of(row + "goes 0-there;");
        path(lonely, 0, 1, 0);
        path(lonely, 1, 2, 1);
        path(lonely, 2, 2, 1);
        SilentReel far = Check.of(row + "goes far;");
        path(far, 0, 1, 0, 0);
        path(far, 1, 2, 1, 0, 0);
        SilentReel near = Check.of(row + "goes 0-far;");
        path(near, 0, 1, 1);
        path(near, 2, 2, 2);
        SilentReel back = Check.of(row + "goes if(step<3,far,0-far);");
        path(back, 1, 2, 1, 0, 1, 2, 2);
        SilentReel kind = Check.of(row + "goes if(kind<2,far,0-far);");
        path(kind, 0, 1, 0);
        path(kind, 1, 2, 2);
        SilentReel here = Check.of(row + "goes if(here=1,far,0-far);");
        path(here, 0, 1, 0);
        path(here, 1, 2, 2);
        SilentReel day = Check.of(row + "goes if(day=1,far,0-far);");
        path(day, 1, 2, 2);
        day.days(1);
        path(day, 1, 2, 1, 0);
    }

    private static void shownOfGoes() {
        String row = "place a;place b;place c;road a to b;road b to c;person p at b kind 1;person q at b kind 1;"
                + "watch q;frame 1 c 4;frame 1 b 3;frame 2 a 2;";
        SilentReel most = Check.of(row + "goes if(shown=9,0,shown);");
        path(most, 0, 1, 0, 0, 0);
        path(most, 1, 1, 2, 1, 0);
        SilentReel least = Check.of(row + "goes 0-shown;");
        path(least, 0, 1, 0, 0);
        path(least, 1, 1, 1, 0);
    }

    /** c is on no road: from b, where he began, it is 9 if it is not known how far it is from where he is. */
    private static void farWithoutWay() {
        SilentReel x = Check.of("place a;place b;place c;place d;road a to b;road c to d;person p at a kind 1;"
                + "goes if(far=9,5,far);");
        path(x, 0, 0, 1);
        x.send(0, 3);
        path(x, 0, 3, 2, 2);
        Check.due("far(3, 0)", x.far(3, 0), -1);
    }

    private static void firstOfLikeOnes() {
        String row = "place a;place b;place c;place d;road c to d;road b to c;road d to a;"
                + "person p at c kind 1;person q at d kind 1;";
        SilentReel none = Check.of(row);
        path(none, 0, 2, 1, 1);
        path(none, 1, 3, 0, 0);
        SilentReel like = Check.of(row + "goes 7;");
        path(like, 0, 2, 1, 1);
        path(like, 1, 3, 0, 0);
        SilentReel bounded = Check.of(row + "goes 9999*9999+far;");
        path(bounded, 0, 2, 1);
        SilentReel low = Check.of(row + "goes 0-9999*9999;");
        path(low, 0, 2, 1);
        SilentReel lower = Check.of(row + "goes 0-far;");
        path(lower, 0, 2, 2);
    }

    /** Both flee to where fewer are, by what is ahead of the step: so they are never apart. */
    private static void allAtOnce() {
        SilentReel x = Check.of("place a;place b;road a to b;person p at a kind 1;person q at b kind 2;goes 0-there;");
        path(x, 0, 0, 0, 1, 0, 1, 0, 1, 0, 1);
        path(x, 1, 1, 0, 1, 0, 1, 0, 1, 0, 1);
    }
}
