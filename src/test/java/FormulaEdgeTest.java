/** Terms I, sums and tests, and terms II, how people go: each sentence that names an edge. */
public final class FormulaEdgeTest {
    private static final String TWO = "place a;place b;road a to b;";
    /** 999 999, one below the most. */
    private static final String NEARLY = "999*1001";

    public static void main(String[] args) {
        greatestWholeNumber();
        whatIsLeft();
        byNought();
        aboveTheMost();
        belowTheLeast();
        eachResult();
        allFromTheLeft();
        leastAndMost();
        firstSumWhereItHolds();
        signs();
        heTooIsHere();
        nineIfNothingIsShown();
        nineIfHeDoesNotWatch();
        shownBehindThisStep();
        nineWithoutAWay();
        farFromWhereTheDayBegan();
        byWhatIsAhead();
        withoutStays();
        withoutGoes();
        ofLikeOnes();
        ownOrNextToIt();
        lastDayInSums();
        Check.finish();
    }

    /** "/ gives the greatest whole number not above" */
    private static void greatestWholeNumber() {
        Texts.holds("6/3=2");
        Texts.holds("5/3=1");
        Texts.holds("7/3=2");
        Texts.holds("2/3=0");
        Texts.holds("0/3=0");
        Texts.holds("(0-1)/3=0-1");
        Texts.holds("(0-3)/3=0-1");
        Texts.holds("(0-4)/3=0-2");
        Texts.holds("4/(0-3)=0-2");
        Texts.holds("3/(0-3)=0-1");
        Texts.holds("(0-4)/(0-3)=1");
        Texts.holds("(0-1)/(1000*1000)=0-1");
        Texts.holds("1/(0-1000*1000)=0-1");
        Texts.holds("1000*1000/1=1000*1000");
        Texts.holds("1000*1000/(0-1)=0-1000*1000");
        Texts.holds("(0-1000*1000)/(0-1)=1000*1000");
        Texts.holds("(0-1000*1000)/(1000*1000)=0-1");
    }

    /** "% what is left (a less b times that)" */
    private static void whatIsLeft() {
        Texts.holds("6%3=0");
        Texts.holds("5%3=2");
        Texts.holds("2%3=2");
        Texts.holds("(0-1)%3=2");
        Texts.holds("(0-3)%3=0");
        Texts.holds("(0-4)%3=2");
        Texts.holds("4%(0-3)=0-2");
        Texts.holds("3%(0-3)=0");
        Texts.holds("(0-4)%(0-3)=0-1");
        Texts.holds("1%(0-1000*1000)=1-1000*1000");
        Texts.holds("(0-1)%(1000*1000)=" + NEARLY);
        Texts.holds("5%1=0");
        Texts.holds("(0-5)%(0-1)=0");
        Texts.holds("1000*1000%(0-" + NEARLY + ")=2-1000*1000");
    }

    /** "by 0 both give 0" */
    private static void byNought() {
        for (String a : new String[] {"0", "1", "9999", "(0-1)", "(0-9999)", "(9999*9999)", "(0-9999*9999)"}) {
            Texts.holds(a + "/0=0");
            Texts.holds(a + "%0=0");
            Texts.holds(a + "/(kind-3)=0");
            Texts.holds(a + "%(kind-3)=0");
        }
        Texts.holds("7/0+1=1");
        Texts.holds("7%0+1=1");
        Texts.holds("7/(1/2)=0");
        Texts.holds("0/7=0");
        Texts.holds("0%7=0");
    }

    /** "each result above 10 to the 6 is that" */
    private static void aboveTheMost() {
        Texts.holds(NEARLY + "+1=1000*1000");
        Texts.holds(NEARLY + "+1>" + NEARLY);
        Texts.holds(NEARLY + "+1-1=" + NEARLY);
        Texts.holds(NEARLY + "+2=1000*1000");
        Texts.holds(NEARLY + "+2-1=" + NEARLY);
        Texts.holds("1000*1000-(0-1)-1=" + NEARLY);
        Texts.holds("1001*1000-1=" + NEARLY);
        Texts.holds("(0-1001)*(0-1000)-1=" + NEARLY);
        Texts.holds("9999*9999=1000*1000");
        Texts.holds("9999*9999*9999*9999-1=" + NEARLY);
        Texts.holds("min(1000*1000+1,1000*1000)=1000*1000");
        Texts.holds("if(all,1000*1000+9,0)-9=1000*1000-9");
        Texts.holds("1000*1000>1000*1000", false);
        Texts.holds("1000*1000+1>1000*1000", false);
    }

    /** "below -10 to the 6 likewise" */
    private static void belowTheLeast() {
        Texts.holds("0-" + NEARLY + "-1=0-1000*1000");
        Texts.holds("0-" + NEARLY + "-1<0-" + NEARLY);
        Texts.holds("0-" + NEARLY + "-1+1=0-" + NEARLY);
        Texts.holds("0-" + NEARLY + "-2=0-1000*1000");
        Texts.holds("0-" + NEARLY + "-2+1=0-" + NEARLY);
        Texts.holds("(0-1001)*1000+1=0-" + NEARLY);
        Texts.holds("(0-1000*1000)+(0-1)+1=0-" + NEARLY);
        Texts.holds("(0-9999)*9999*9999*9999+1=0-" + NEARLY);
        Texts.holds("9999*9999*(0-9999*9999)+1=0-" + NEARLY);
        Texts.holds("max(0-1000*1000-1,0-1000*1000)=0-1000*1000");
        Texts.holds("0-1000*1000-1<0-1000*1000", false);
    }

    /** "each result": not only the last one */
    private static void eachResult() {
        Texts.holds("9999*9999-9999*9999=0");
        Texts.holds("2000*1000/1000=1000");
        Texts.holds("2000*1000%1001=1000*1000%1001");
        Texts.holds("1000*1000+1000*1000-1000*1000=0");
        Texts.holds("(1000*1000+5)*(0-1)+1000*1000=0");
    }

    /** "All from the left on" */
    private static void allFromTheLeft() {
        Texts.holds("9-5-3=1");
        Texts.holds("9-5+3=7");
        Texts.holds("64/8/4=2");
        Texts.holds("64/8*4=32");
        Texts.holds("64%7*3=3");
        Texts.holds("3*64%7=3");
        Texts.holds("100%30%7=3");
        Texts.holds("1000*1000+1-1=" + NEARLY);
        Texts.holds("1-1+1000*1000=1000*1000");
        Texts.holds("2+3*4-6/2=11");
    }

    /** min and max of unlike ones, in both orders, of like ones, and at the bounds */
    private static void leastAndMost() {
        Texts.holds("min(1,2)=1");
        Texts.holds("min(2,1)=1");
        Texts.holds("min(2,2)=2");
        Texts.holds("max(1,2)=2");
        Texts.holds("max(2,1)=2");
        Texts.holds("max(2,2)=2");
        Texts.holds("min(0,0-1)=0-1");
        Texts.holds("max(0-2,0-1)=0-1");
        Texts.holds("min(9999*9999,0-9999*9999)=0-1000*1000");
        Texts.holds("max(9999*9999,0-9999*9999)=1000*1000");
    }

    /** "the first SUM where the TEST holds, else the second one" */
    private static void firstSumWhereItHolds() {
        Texts.holds("if(all,1,2)=1");
        Texts.holds("if(not all,1,2)=2");
        Texts.holds("if(1=2 or all,1,2)=1");
        Texts.holds("if(all and 1=2,1,2)=2");
        Texts.holds("if(all,5/0,1)=0");
        Texts.holds("if(not all,5/0,1)=1");
        Texts.holds("if(all,1,9999*9999)=1");
    }

    /** "SIGN < or > or =" at the one between */
    private static void signs() {
        Texts.holds("2<3");
        Texts.holds("3<3", false);
        Texts.holds("4<3", false);
        Texts.holds("4>3");
        Texts.holds("3>3", false);
        Texts.holds("2>3", false);
        Texts.holds("3=3");
        Texts.holds("2=3", false);
        Texts.holds("4=3", false);
    }

    /** "how many people are in his PLACE, he too": 1 of one alone, 6 of six */
    private static void heTooIsHere() {
        SilentReel one = Check.of(TWO + "person p at a kind 1;stays here=1;goes far;");
        Check.due("one is here", one.where(0, 8), 0);
        SilentReel six = Check.of(Texts.SIX + "place b;road a to b;stays here=6;goes far;");
        Check.due("six are here", six.who(0, 8), 63);
        SilentReel there = Check.of(TWO + "person p at a kind 1;goes if(there=1,1,0);");
        Check.due("he is there too", there.where(0, 1), 0);
        there.send(0, 1);
        Check.due("he is there too, in b", there.where(0, 1), 1);
    }

    /** "9 if nothing is": of frames of another step or place nothing is shown here */
    private static void nineIfNothingIsShown() {
        String watching = TWO + "person p at a kind 1;watch p;goes far;stays shown=";
        Check.due("nothing is shown", Check.of(watching + "9;").where(0, 1), 0);
        Check.due("nothing is shown here", Check.of(watching + "9;frame 1 b 3;").where(0, 1), 0);
        Check.due("nothing is shown now", Check.of(watching + "9;frame 2 a 3;").where(0, 1), 0);
        Check.due("three are shown", Check.of(watching + "3;frame 1 a 3;").where(0, 1), 0);
        Check.due("none are shown, which is not nothing", Check.of(watching + "0;frame 1 a 0;").where(0, 1), 0);
        Check.due("none are shown, which is not 9", Check.of(watching + "9;frame 1 a 0;").where(0, 1), 1);
        SilentReel x = Check.of(watching + "9;frame 1 a 0;");
        x.cut(0);
        Check.due("nothing is shown any more", x.where(0, 1), 0);
    }

    /** "or if he does not watch" */
    private static void nineIfHeDoesNotWatch() {
        SilentReel x = Check.of(TWO + "person p at a kind 1;person q at a kind 1;watch q;frame 1 a 2;"
                + "stays shown=9;goes far;");
        Check.due("p does not watch", x.where(0, 1), 0);
        Check.due("q watches", x.where(1, 1), 1);
        x.watch(0, 1);
        x.watch(1, 0);
        Check.due("p watches", x.where(0, 1), 1);
        Check.due("q does not watch", x.where(1, 1), 0);
        SilentReel goes = Check.of(TWO + "person p at a kind 1;person q at a kind 1;watch q;frame 1 b 6;"
                + "goes 0-shown;");
        Check.due("p does not see b's 6", goes.where(0, 1), 0);
        Check.due("q does", goes.where(1, 1), 1);
    }

    /** "how many are shown there .. behind this STEP": at the first one and the last one */
    private static void shownBehindThisStep() {
        for (int step = 1; step <= 8; step++) {
            SilentReel x = Check.of(TWO + "person p at a kind 1;watch p;frame " + step + " a 4;"
                    + "stays not shown=4;goes far;");
            for (int behind = 0; behind <= 8; behind++) {
                Check.due("frame " + step + ": where(0, " + behind + ")", x.where(0, behind), behind < step ? 0 : 1);
            }
        }
    }

    /** "how many ROADS it is from where he was as the DAY began, 9 without a way": nobody sees 9, who goes by roads */
    private static void nineWithoutAWay() {
        SilentReel x = Check.of("place a;place b;place c;road b to c;person p at a kind 1;person q at c kind 1;"
                + "goes if(far=9,9,far);");
        Check.due("p can't go", x.where(0, 8), 0);
        Check.due("q goes", x.where(1, 1), 1);
        Check.due("q stays far", x.where(1, 2), 1);
    }

    private static void farFromWhereTheDayBegan() {
        SilentReel x = Check.of("place a;place b;place c;place d;place e;place f;place g;road a to b;road b to c;"
                + "road c to d;road d to e;road e to f;road f to g;person p at a kind 1;goes far;");
        int[] due = {0, 1, 2, 3, 4, 5, 6, 6, 6};
        for (int step = 0; step <= 8; step++) {
            Check.due("where(0, " + step + ")", x.where(0, step), due[step]);
        }
        x.days(1);
        Check.due("where(0, 1) of the next day", x.where(0, 1), 5);
        Check.due("where(0, 8) of the next day", x.where(0, 8), 0);
        x.send(0, 3);
        Check.due("where(0, 1) when he is sent: the first of like ones", x.where(0, 1), 2);
        Check.due("where(0, 8) when he is sent", x.where(0, 8), 0);
    }

    /** "In each PEOPLE all go by what is ahead of it" */
    private static void byWhatIsAhead() {
        SilentReel x = Check.of(TWO + "person p at a kind 1;person q at b kind 1;person r at b kind 1;goes there;");
        Check.due("p goes where two are", x.where(0, 1), 1);
        Check.due("q stays with them", x.where(1, 1), 1);
        SilentReel swap = Check.of(TWO + "person p at a kind 1;person q at b kind 1;"
                + "goes if(there=1 and far=1,1,0);");
        for (int step = 0; step <= 1; step++) {
            Check.due("p at " + step, swap.where(0, step), step);
            Check.due("q at " + step, swap.where(1, step), 1 - step);
        }
    }

    /** "one for whom the TEST of stays holds (without it: nobody) stays" */
    private static void withoutStays() {
        Check.due("without stays he goes", Check.of(TWO + "person p at a kind 1;goes far;").where(0, 1), 1);
        Check.due("with all he stays", Check.of(TWO + "person p at a kind 1;goes far;stays all;").where(0, 8), 0);
        SilentReel none = Check.of(TWO + "person p at a kind 1;goes far;stays not all;");
        Check.due("with not all he goes", none.where(0, 1), 1);
    }

    /** "the SUM of goes is greatest (without it: 0)" */
    private static void withoutGoes() {
        SilentReel x = Check.of(TWO + "person p at b kind 1;person q at a kind 1;");
        Check.due("without goes all sums are like: p goes to a", x.where(0, 1), 0);
        Check.due("q is in a", x.where(1, 1), 0);
    }

    /** "of like ones the first": by the places' order, not by the roads', and not his own first */
    private static void ofLikeOnes() {
        String star = "place a;place b;place c;place d;road d to c;road d to b;person p at d kind 1;";
        Check.due("the first of b, c, d", Check.of(star).where(0, 1), 1);
        Check.due("the first by 5", Check.of(star + "goes 5;").where(0, 1), 1);
        Check.due("the first by the least", Check.of(star + "goes 0-9999*9999;").where(0, 1), 1);
        Check.due("the first by the most", Check.of(star + "goes 9999*9999+far;").where(0, 1), 1);
        Check.due("one below the most is not like", Check.of(star + "goes " + NEARLY + "+(1-far);").where(0, 1), 3);
        Check.due("one above the least is not like", Check.of(star + "goes 0-" + NEARLY + "-far;").where(0, 1), 3);
        Check.due("two beyond the least are like", Check.of(star + "goes 0-1000*1000-far;").where(0, 1), 1);
        Check.due("the first of those that are greatest", Check.of(star + "goes far;").where(0, 1), 1);
    }

    /** "his own or one by a ROAD next to it" */
    private static void ownOrNextToIt() {
        SilentReel x = Check.of("place a;place b;place c;place d;road c to d;person p at c kind 1;");
        Check.due("not to a, where no road goes", x.where(0, 1), 2);
        Check.due("d is not the first", x.where(0, 8), 2);
        Check.due("alone in a", Check.of("place a;place b;person p at b kind 1;").where(0, 8), 1);
        Check.due("not two roads at once", Check.of("place a;place b;place c;road a to b;road b to c;"
                + "person p at c kind 1;").where(0, 1), 1);
    }

    /** The day of a sum goes from 0 to 999. */
    private static void lastDayInSums() {
        SilentReel x = Check.of(TWO + "person p at a kind 1;stays day<999;goes far;");
        Check.due("on day 0", x.where(0, 1), 0);
        for (int k = 0; k < 24; k++) {
            x.days(40);
        }
        x.days(38);
        Check.due("has(3)", x.has(3), 998);
        Check.due("on day 998", x.where(0, 1), 0);
        x.days(1);
        Check.due("on day 999", x.where(0, 1), 1);
    }
}
