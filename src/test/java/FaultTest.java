/** Promises 4 (town) and 5 (fault): every fault, and which comes first along the text. */
public final class FaultTest {
    private static final String AHEAD = "place a;place b;road a to b;person p at a kind 1;";

    public static void main(String[] args) {
        counts();
        unfinished();
        misplaced();
        longWords();
        sideBySide();
        blanks();
        ownWords();
        givenNames();
        askedNames();
        numbers();
        openOnes();
        tooMany();
        tooManyStatements();
        formulas();
        whatStays();
        whatGoes();
        nothingOfOldTowns();
        Check.finish();
    }

    private static void counts() {
        Texts.good("", 0);
        Texts.good(" \n \n", 0);
        Texts.good("place a;", 1);
        Texts.good("rain 0;rain 100;", 2);
        Texts.good(AHEAD, 4);
        Texts.good(AHEAD + "watch p;frame 1 a 0;frame 8 b 6;stays all;goes 1;rain 3;", 10);
        Texts.good("rain 1;".repeat(80), 80);
        Texts.good("rain 1;".repeat(80) + " \n", 80);
    }

    private static void unfinished() {
        Texts.bad("place", 1, 5);
        Texts.bad("place ", 1, 6);
        Texts.bad("place a", 1, 7);
        Texts.bad("place a \n ", 1, 10);
        Texts.bad("place a;road", 1, 12);
        Texts.bad("place a;road a", 1, 14);
        Texts.bad("place a;road a to", 1, 17);
        Texts.bad("person", 1, 6);
        Texts.bad("person p", 1, 8);
        Texts.bad("person p at", 1, 11);
        Texts.bad("place a;person p at a", 1, 21);
        Texts.bad("place a;person p at a kind", 1, 26);
        Texts.bad("place a;person p at a kind 4", 1, 28);
        Texts.bad("watch", 1, 5);
        Texts.bad("frame", 1, 5);
        Texts.bad("frame 1", 1, 7);
        Texts.bad("place a;frame 1 a", 1, 17);
        Texts.bad("place a;frame 1 a 1", 1, 19);
        Texts.bad("stays", 1, 5);
        Texts.bad("stays not", 1, 9);
        Texts.bad("stays [", 1, 7);
        Texts.bad("stays [all", 1, 10);
        Texts.bad("stays 1", 1, 7);
        Texts.bad("stays 1<", 1, 8);
        Texts.bad("stays 1<2", 1, 9);
        Texts.bad("stays all or", 1, 12);
        Texts.bad("stays all and", 1, 13);
        Texts.bad("goes", 1, 4);
        Texts.bad("goes 1+", 1, 7);
        Texts.bad("goes min", 1, 8);
        Texts.bad("goes min(", 1, 9);
        Texts.bad("goes min(1", 1, 10);
        Texts.bad("goes min(1,", 1, 11);
        Texts.bad("goes min(1,2", 1, 12);
        Texts.bad("goes if(all,1,2", 1, 15);
        Texts.bad("rain", 1, 4);
        Texts.bad("rain 1", 1, 6);
    }

    private static void misplaced() {
        Texts.marked("|pla", 1);
        Texts.marked("|;", 1);
        Texts.marked("place a;|;", 1);
        Texts.marked("|7;", 1);
        Texts.marked("|kind 1;", 1);
        Texts.marked("|Place a;", 1);
        Texts.marked("place |A;", 1);
        Texts.marked("|plac\u00e9 a;", 1);
        Texts.marked("place a|B;", 1);
        Texts.marked("place |1;", 1);
        Texts.marked("place a |b;", 1);
        Texts.marked("place a|,place b;", 1);
        Texts.marked("place a;|\t", 1);
        Texts.marked("place a;|\0", 1);
        Texts.marked("place a;|\u00ff", 1);
        Texts.marked("place a;place b;road a |b;", 1);
        Texts.marked("place a;place b;road a |at b;", 1);
        Texts.marked("place a;place b;road a |toto b;", 1);
        Texts.marked("place a;person p |to a kind 1;", 1);
        Texts.marked("place a;person p at a |1;", 1);
        Texts.marked("place a;person p at a kind |p;", 1);
        Texts.marked("place a;person p at a kind |-1;", 1);
        Texts.marked("place a;frame |a 1;", 1);
        Texts.marked("place a;frame 1 |1 a;", 1);
        Texts.marked("place a;frame 1 a |a;", 1);
        Texts.marked("rain |x;", 1);
        Texts.marked("rain |;", 1);
        Texts.marked("rain 1 |2;", 1);
    }

    private static void longWords() {
        Texts.good("place abcdef;", 1);
        Texts.marked("place abcdef|g;", 1);
        Texts.marked("place abcdef|gh", 1);
        Texts.marked("place abcdef|a;", 1);
        Texts.marked("goes 1234|0;", 1);
        Texts.marked("rain 1234|0;", 1);
        Texts.marked("place a;road abcdef|a to a;", 1);
        Texts.marked("person|s;", 1);
        Texts.marked("placea|bc d;", 1);
        Texts.marked("goes 1 abcdef|ghi;", 1);
        Texts.marked("goes 1 1234|5;", 1);
        Texts.marked("goes 1234|5;", 1);
        Texts.good("goes 9999;", 1);
        Texts.good("goes 0001;", 1);
        Texts.good("rain 0100;", 1);
        Texts.marked("rain 1234|5;", 1);
        Texts.marked("place a;frame 0000|1 a 1;", 1);
        Texts.marked("1234|5", 1);
    }

    private static void sideBySide() {
        Texts.marked("rain|1;", 1);
        Texts.marked("place a;frame|1 a 1;", 1);
        Texts.marked("place a;frame 1|a 1;", 1);
        Texts.marked("place a;frame 1 a|1;", 1);
        Texts.marked("place a;person p at a kind|1;", 1);
        Texts.marked("place a;person p at a kind|10;", 1);
        Texts.marked("place a;frame 1|x 1;", 1);
        Texts.marked("stays 1=1|or all;", 1);
        Texts.marked("stays 1=1 or|1=1;", 1);
        Texts.marked("place a|1;", 1);
        Texts.marked("rain|12345;", 1);
        Texts.marked("place a;frame 1|abcdefg 1;", 1);
        Texts.good("stays(1)=(1)or(2)=(2);", 1);
        Texts.good("goes(1);", 1);
        Texts.good("stays[all]and[all];", 1);
        Texts.good("stays not[all];", 1);
        Texts.good("goes if(kind=1,2,3)+min(kind,day)*max(1,2);", 1);
    }

    private static void blanks() {
        Texts.good("\nplace\na\n;\n\nplace b ; road a\nto  b;", 3);
        Texts.good(" goes  1 + 2 * ( 3 - 4 ) ;", 1);
        Texts.good("stays 1 = 1 and not [ all ] ;", 1);
        Texts.marked("place a;|\rplace b;", 1);
        Texts.marked("place a;|\tplace b;", 1);
        Texts.marked("|pl ace a;", 1);
        Texts.marked("goes 1 |2;", 1);
    }

    private static void ownWords() {
        for (String word : Texts.OWN) {
            Texts.marked("place |" + word + ";", 1);
            Texts.marked("place a;person |" + word + " at a kind 1;", 1);
            Texts.marked("place a;road |" + word + " to a;", 1);
            Texts.marked("place a;road a to |" + word + ";", 1);
            Texts.marked("place a;person p at |" + word + " kind 1;", 1);
            Texts.marked("watch |" + word + ";", 1);
            Texts.marked("place a;frame 1 |" + word + " 1;", 1);
            if (word.length() < 6) {
                Texts.good("place " + word + "x;", 1);
            }
        }
    }

    private static void givenNames() {
        Texts.marked("place a;place |a;", 2);
        Texts.marked("place a;place b;place |a", 2);
        Texts.marked("place a;person |a at a kind 1;", 2);
        Texts.marked("place a;person p at a kind 1;person |p at a kind 1;", 2);
        Texts.marked("place a;person p at a kind 1;place |p;", 2);
        Texts.good("place a;place aa;place aaa;place ab;place b;", 5);
    }

    private static void askedNames() {
        Texts.marked(AHEAD + "road |x to a;", 3);
        Texts.marked(AHEAD + "road |p to a;", 3);
        Texts.marked(AHEAD + "road a to |x;", 3);
        Texts.marked(AHEAD + "road a to |p;", 3);
        Texts.marked(AHEAD + "road a to |a;", 3);
        Texts.marked(AHEAD + "road a to |b;", 3);
        Texts.marked(AHEAD + "road b to |a;", 3);
        Texts.marked(AHEAD + "person q at |x kind 1;", 3);
        Texts.marked(AHEAD + "person q at |p kind 1;", 3);
        Texts.marked("place a;person q at |q kind 1;", 3);
        Texts.marked(AHEAD + "watch |q;", 3);
        Texts.marked(AHEAD + "watch |a;", 3);
        Texts.marked(AHEAD + "watch p;watch |p;", 3);
        Texts.marked(AHEAD + "frame 1 |x 1;", 3);
        Texts.marked(AHEAD + "frame 1 |p 1;", 3);
        Texts.marked(AHEAD + "frame 1 a 1;frame 1 |a 1;", 3);
        Texts.marked(AHEAD + "frame 1 a 1;frame 1 |a 9;", 3);
        Texts.good(AHEAD + "frame 1 a 1;frame 1 b 1;frame 2 a 1;", 7);
        Texts.marked("road |a to b;place a;place b;", 3);
        Texts.marked("watch |p;place a;person p at a kind 1;", 3);
    }

    private static void numbers() {
        Texts.good("place a;person p at a kind 0;person q at a kind 9;", 3);
        Texts.marked("place a;person p at a kind |10;", 4);
        Texts.marked("place a;person p at a kind |9999;", 4);
        Texts.marked("place a;frame |0 a 1;", 4);
        Texts.marked("place a;frame |9 a 1;", 4);
        Texts.marked("place a;frame |9 x 9;", 4);
        Texts.good("place a;frame 1 a 0;frame 8 a 6;", 3);
        Texts.marked("place a;frame 1 a |7;", 4);
        Texts.marked("place a;frame 1 a |7", 4);
        Texts.marked("rain |101;", 4);
        Texts.marked("rain 5;rain |9999", 4);
    }

    private static void openOnes() {
        Texts.good("goes (((((((1)))))));", 1);
        Texts.marked("goes (((((((|(1))))))));", 5);
        Texts.good("stays [[[[[[[all]]]]]]];", 1);
        Texts.marked("stays [[[[[[[|[all]]]]]]]];", 5);
        Texts.good("stays not not not not not not not all;", 1);
        Texts.marked("stays not not not not not not not |not all;", 5);
        Texts.good("stays not not not not not not not all and not not not not not not not all;", 1);
        Texts.good("stays [not not not not not not all or not all];", 1);
        Texts.marked("stays [not not not not not not |[all]];", 5);
        Texts.marked("stays [not not not (((1+min|(1,2))))=2];", 5);
        Texts.marked("goes ((((((if(all,min|(1,2),3))))))", 5);
        Texts.good("goes ((((((if(all,kind,3)))))));", 1);
        Texts.good("goes (1)+(1)+(1)+(1)+(1)+(1)+(1)+(1)+(1);", 1);
        Texts.good("goes min(1,2)+min(1,2)+min(1,2)+min(1,2)+min(1,2)+min(1,2)+min(1,2)+min(1,2);", 1);
        Texts.marked("goes if(not not not not not not |not all,1,2);", 5);
        Texts.good("goes if(not not not not not not all,1,2);", 1);
        Texts.good("goes min(((((((1)))))),((((((1)))))));", 1);
        Texts.marked("goes min(((((((|(1", 5);
        Texts.marked("goes min(1,((((((|(1", 5);
        Texts.marked("goes max(1,((((((|(1", 5);
        Texts.good("goes if(((((((1))))))=1,((((((1)))))),((((((1)))))));", 1);
        Texts.marked("goes if(((((((|(1", 5);
        Texts.marked("goes if(all,((((((|(1", 5);
        Texts.marked("goes if(all,1,((((((|(1", 5);
        Texts.marked("goes if([[[[[[|[all", 5);
        Texts.good("goes ((1)+((2))*min((1),2))+((((((3))))));", 1);
        Texts.marked("goes (((((((|[", 1);
        Texts.marked("goes (((((((1|(", 1);
        Texts.marked("goes (((((((|not", 1);
        Texts.marked("goes (((((((min|)", 1);
    }

    private static void tooMany() {
        Texts.good(Texts.SEVEN, 7);
        Texts.marked(Texts.SEVEN + "|place h;", 6);
        Texts.marked(Texts.SEVEN + "|place", 6);
        Texts.marked(Texts.SEVEN + "|place a;", 6);
        Texts.good(Texts.TWELVE, 19);
        Texts.marked(Texts.TWELVE + "|road c to e;", 6);
        Texts.good(Texts.SIX, 7);
        Texts.marked(Texts.SIX + "|person v at a kind 1;", 6);
        Texts.good(Texts.SIX + "watch p;watch q;watch r;watch s;watch t;watch u;", 13);
        Texts.marked(Texts.SIX + "watch p;watch q;watch r;watch s;watch t;watch u;watch |p;", 3);
        Texts.good(Texts.EIGHT, 9);
        Texts.marked(Texts.EIGHT + "|frame 1 a 1;", 6);
        Texts.marked("stays all;|stays all;", 6);
        Texts.marked("goes 1;|goes 1;", 6);
        Texts.marked("goes 1;stays all;|goes", 6);
        Texts.good("rain 1;rain 2;rain 3;", 3);
    }

    private static void tooManyStatements() {
        String eighty = "rain 1;".repeat(80);
        Texts.marked(eighty + "|rain 1;", 6);
        Texts.marked(eighty + " |place a;", 6);
        Texts.marked(eighty + "\n|goes", 6);
        Texts.marked("rain 1;".repeat(79) + "rain |101;rain 1;rain 1;", 4);
        Texts.marked("rain 1;".repeat(79) + "|x;", 1);
    }

    private static void formulas() {
        Texts.good("stays kind+step%3=here*4 or shown=day;goes shown*there-far/2;", 2);
        Texts.marked("stays |there=1;", 1);
        Texts.marked("stays |far=1;", 1);
        Texts.marked("stays 1<if(|far=1,2,3);", 1);
        Texts.marked("stays 1<min(2,|there);", 1);
        Texts.good("goes if(there=far,there,far);", 1);
        Texts.marked("stays 1|;", 1);
        Texts.marked("stays (1|<2);", 1);
        Texts.marked("stays 1<|=2;", 1);
        Texts.marked("stays 1<2|<3;", 1);
        Texts.marked("stays [all|);", 1);
        Texts.marked("stays all |all;", 1);
        Texts.marked("stays |;", 1);
        Texts.marked("stays |x=1;", 1);
        Texts.marked("stays not |or all;", 1);
        Texts.marked("goes |all;", 1);
        Texts.marked("goes |[1];", 1);
        Texts.marked("goes |not all;", 1);
        Texts.marked("goes 1|<2;", 1);
        Texts.marked("goes |-1;", 1);
        Texts.marked("goes 1+|;", 1);
        Texts.marked("goes 1+|+2;", 1);
        Texts.marked("goes 1 |or 2;", 1);
        Texts.marked("goes (1|;", 1);
        Texts.marked("goes (1|];", 1);
        Texts.marked("goes min|[1,2);", 1);
        Texts.marked("goes min(1|);", 1);
        Texts.marked("goes max(1,2|,3);", 1);
        Texts.marked("goes if(1|,2,3);", 1);
        Texts.marked("goes if(all,2|);", 1);
        Texts.marked("goes if(all,|all,3);", 1);
        Texts.marked("goes |place;", 1);
        Texts.marked("goes 1|^2;", 1);
    }

    private static void whatStays() {
        SilentReel x = Check.of(AHEAD + "watch p;frame 1 a 1;");
        x.seed(77);
        x.send(0, 1);
        x.days(2);
        Check.put(x, 1, 0, 1);
        x.see();
        Check.due("town() with a fault", Check.town(x, "place z;place z;"), -1);
        Check.due("its fault", x.fault(0), 2);
        Check.due("its place", x.fault(1), 14);
        Check.due("has(0)", x.has(0), 2);
        Check.due("has(1)", x.has(1), 1);
        Check.due("has(2)", x.has(2), 1);
        Check.due("has(3)", x.has(3), 2);
        Check.due("has(5)", x.has(5), 1);
        Check.due("has(7)", x.has(7), 2);
        Check.due("has(8)", x.has(8), 1);
        Check.due("has(9)", x.has(9), 2);
        Check.due("has(10)", x.has(10), 77);
        Check.due("letter(0, 0, 0)", x.letter(0, 0, 0), 1);
        Check.due("far(0, 1)", x.far(0, 1), 1);
    }

    /** Towns told one behind the other, the first with all that the third is without. */
    private static void nothingOfOldTowns() {
        SilentReel x = Check.of(AHEAD + "watch p;frame 1 a 1;stays all;rain 100;");
        Check.due("where(0, 8) of the first", x.where(0, 8), 0);
        Check.town(x, "place a;place b;place c;place d;road c to b;person q at c kind 1;stays all;goes far;");
        Check.due("where(0, 8) of the second", x.where(0, 8), 2);
        Check.due("far(2, 1) of the second", x.far(2, 1), 1);
        Check.due("far(0, 1) of the second", x.far(0, 1), -1);
        Check.town(x, "place a;place b;road b to a;person p at b kind 0;frame 1 a 1;frame 2 a 0;");
        Check.due("has(5) of the third", x.has(5), 0);
        Check.due("where(0, 0) of the third", x.where(0, 0), 1);
        Check.due("where(0, 1) of the third", x.where(0, 1), 0);
        Check.due("chance(1) of the third: no rain", x.chance(1), 0);
        Check.town(x, "place c;place a;place b;road a to b;person p at a kind 0;");
        Check.due("where(0, 1) of the fourth: no goes", x.where(0, 1), 1);
        Check.due("letter(0, 0, 0) of the fourth", x.letter(0, 0, 0), 3);
        SilentReel full = Check.of("place a;place b;road a to b;" + "rain 1;".repeat(77));
        Check.due("far(0, 1) with 80 statements", full.far(0, 1), 1);
        Check.due("far(0, 0) with 80 statements", full.far(0, 0), 0);
    }

    private static void whatGoes() {
        SilentReel x = Check.of(AHEAD + "watch p;frame 1 a 1;stays all;goes 0-far;rain 100;");
        x.seed(77);
        x.send(0, 1);
        x.days(2);
        x.cut(0);
        Check.put(x, 1, 0, 1);
        x.see();
        Check.due("a fault ahead", Check.town(x, "xx"), -1);
        Check.due("town()", Check.town(x, "place b;place a;person q at a kind 2;frame 2 b 3;road a to b;"), 5);
        Check.due("fault(0)", x.fault(0), 0);
        Check.due("fault(1)", x.fault(1), -1);
        Check.due("status(1)", x.status(1), 1);
        Check.due("has(0)", x.has(0), 2);
        Check.due("has(1)", x.has(1), 1);
        Check.due("has(2)", x.has(2), 1);
        Check.due("has(3)", x.has(3), 0);
        Check.due("has(4)", x.has(4), 1);
        Check.due("has(5)", x.has(5), 0);
        Check.due("has(7)", x.has(7), 0);
        Check.due("has(8)", x.has(8), 0);
        Check.due("has(9)", x.has(9), 0);
        Check.due("has(10)", x.has(10), 77);
        Check.due("where(0, 0)", x.where(0, 0), 1);
        Check.due("where(0, 1): no stays, no goes, the first place", x.where(0, 1), 0);
        Check.due("chance(1): no rain", x.chance(1), 0);
        Check.due("town() of nothing", x.town(), 0);
        for (int what = 0; what <= 9; what++) {
            Check.due("has(" + what + ") of nothing", x.has(what), 0);
        }
        Check.due("person(0, 0) of nothing", x.person(0, 0), -1);
        Check.due("far(0, 0) of nothing", x.far(0, 0), -1);
    }
}
