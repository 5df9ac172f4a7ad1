/** Promises 4 (town) and 5 (fault): every fault, and which comes first along the text. */
public final class FaultTest {
    private static final String[] OWN = {"place", "road", "to", "person", "at", "kind", "watch", "frame", "stays",
        "goes", "rain", "step", "day", "here", "shown", "there", "far", "if", "or", "and", "not", "all", "min", "max"};
    private static final String AHEAD = "place a;place b;road a to b;person p at a kind 1;";

    public static void main(String[] args) {
        counts();
        unfinished();
        misplaced();
        longWords();
        sideBySide();
        blanks();
        ownWords();
        givenNames();
        askedNames();
        numbers();
        openOnes();
        tooMany();
        tooManyStatements();
        formulas();
        whatStays();
        whatGoes();
        nothingOfOldTowns();
        Check.finish();
    }

    private static void good(String text, int statements) {
        SilentReel x = new SilentReel();
        Check.due("town() of " + text, Check.town(x, text), statements);
        Check.due("fault(0) of " + text, x.fault(0), 0);
        Check.due("fault(1) of " + text, x.fault(1), -1);
        Check.due("status(1) of " + text, x.status(1), 0);
    }

    private static void bad(String text, int fault, int at) {
        SilentReel x = new SilentReel();
        Check.due("town() of " + text, Check.town(x, text), -1);
        Check.due("fault(0) of " + text, x.fault(0), fault);
        Check.due("fault(1) of " + text, x.fault(1), at);
        Check.due("fault(2) of " + text, x.fault(2), -1);
        Check.due("fault(-1) of " + text, x.fault(-1), -1);
        Check.due("status(1) of " + text, x.status(1), 1);
    }

    /** The fault is at the sign that is marked by a bar, which is not in the text. */
    private static void marked(String text, int fault) {
        int at = text.indexOf('|');
        bad(text.substring(0, at) + text.substring(at + 1), fault, at);
    }

    private static void counts() {
        good("", 0);
        good(" \n \n", 0);
        good("place a;", 1);
        good("rain 0;rain 100;", 2);
        good(AHEAD, 4);
        good(AHEAD + "watch p;frame 1 a 0;frame 8 b 6;stays all;goes 1;rain 3;", 10);
        good("rain 1;".repeat(80), 80);
        good("rain 1;".repeat(80) + " \n", 80);
    }

    private static void unfinished() {
        bad("place", 1, 5);
        bad("place ", 1, 6);
        bad("place a", 1, 7);
        bad("place a \n ", 1, 10);
        bad("place a;road", 1, 12);
        bad("place a;road a", 1, 14);
        bad("place a;road a to", 1, 17);
        bad("person", 1, 6);
        bad("person p", 1, 8);
        bad("person p at", 1, 11);
        bad("place a;person p at a", 1, 21);
        bad("place a;person p at a kind", 1, 26);
        bad("place a;person p at a kind 4", 1, 28);
        bad("watch", 1, 5);
        bad("frame", 1, 5);
        bad("frame 1", 1, 7);
        bad("place a;frame 1 a", 1, 17);
        bad("place a;frame 1 a 1", 1, 19);
        bad("stays", 1, 5);
        bad("stays not", 1, 9);
        bad("stays [", 1, 7);
        bad("stays [all", 1, 10);
        bad("stays 1", 1, 7);
        bad("stays 1<", 1, 8);
        bad("stays 1<2", 1, 9);
        bad("stays all or", 1, 12);
        bad("stays all and", 1, 13);
        bad("goes", 1, 4);
        bad("goes 1+", 1, 7);
        bad("goes min", 1, 8);
        bad("goes min(", 1, 9);
        bad("goes min(1", 1, 10);
        bad("goes min(1,", 1, 11);
        bad("goes min(1,2", 1, 12);
        bad("goes if(all,1,2", 1, 15);
        bad("rain", 1, 4);
        bad("rain 1", 1, 6);
    }

    private static void misplaced() {
        marked("|pla", 1);
        marked("|;", 1);
        marked("place a;|;", 1);
        marked("|7;", 1);
        marked("|kind 1;", 1);
        marked("|Place a;", 1);
        marked("place |A;", 1);
        marked("|plac\u00e9 a;", 1);
        marked("place a|B;", 1);
        marked("place |1;", 1);
        marked("place a |b;", 1);
        marked("place a|,place b;", 1);
        marked("place a;|\t", 1);
        marked("place a;|\0", 1);
        marked("place a;|\u00ff", 1);
        marked("place a;place b;road a |b;", 1);
        marked("place a;place b;road a |at b;", 1);
        marked("place a;place b;road a |toto b;", 1);
        marked("place a;person p |to a kind 1;", 1);
        marked("place a;person p at a |1;", 1);
        marked("place a;person p at a kind |p;", 1);
        marked("place a;person p at a kind |-1;", 1);
        marked("place a;frame |a 1;", 1);
        marked("place a;frame 1 |1 a;", 1);
        marked("place a;frame 1 a |a;", 1);
        marked("rain |x;", 1);
        marked("rain |;", 1);
        marked("rain 1 |2;", 1);
    }

    private static void longWords() {
        good("place abcdef;", 1);
        marked("place abcdef|g;", 1);
        marked("place abcdef|gh", 1);
        marked("place abcdef|a;", 1);
        marked("goes 1234|0;", 1);
        marked("rain 1234|0;", 1);
        marked("place a;road abcdef|a to a;", 1);
        marked("person|s;", 1);
        marked("placea|bc d;", 1);
        marked("goes 1 abcdef|ghi;", 1);
        marked("goes 1 1234|5;", 1);
        marked("goes 1234|5;", 1);
        good("goes 9999;", 1);
        good("goes 0001;", 1);
        good("rain 0100;", 1);
        marked("rain 1234|5;", 1);
        marked("place a;frame 0000|1 a 1;", 1);
        marked("1234|5", 1);
    }

    private static void sideBySide() {
        marked("rain|1;", 1);
        marked("place a;frame|1 a 1;", 1);
        marked("place a;frame 1|a 1;", 1);
        marked("place a;frame 1 a|1;", 1);
        marked("place a;person p at a kind|1;", 1);
        marked("place a;person p at a kind|10;", 1);
        marked("place a;frame 1|x 1;", 1);
        marked("stays 1=1|or all;", 1);
        marked("stays 1=1 or|1=1;", 1);
        marked("place a|1;", 1);
        marked("rain|12345;", 1);
        marked("place a;frame 1|abcdefg 1;", 1);
        good("stays(1)=(1)or(2)=(2);", 1);
        good("goes(1);", 1);
        good("stays[all]and[all];", 1);
        good("stays not[all];", 1);
        good("goes if(kind=1,2,3)+min(kind,day)*max(1,2);", 1);
    }

    private static void blanks() {
        good("\nplace\na\n;\n\nplace b ; road a\nto  b;", 3);
        good(" goes  1 + 2 * ( 3 - 4 ) ;", 1);
        good("stays 1 = 1 and not [ all ] ;", 1);
        marked("place a;|\rplace b;", 1);
        marked("place a;|\tplace b;", 1);
        marked("|pl ace a;", 1);
        marked("goes 1 |2;", 1);
    }

    private static void ownWords() {
        for (String word : OWN) {
            marked("place |" + word + ";", 1);
            marked("place a;person |" + word + " at a kind 1;", 1);
            marked("place a;road |" + word + " to a;", 1);
            marked("place a;road a to |" + word + ";", 1);
            marked("place a;person p at |" + word + " kind 1;", 1);
            marked("watch |" + word + ";", 1);
            marked("place a;frame 1 |" + word + " 1;", 1);
            if (word.length() < 6) {
                good("place " + word + "x;", 1);
            }
        }
    }

    private static void givenNames() {
        marked("place a;place |a;", 2);
        marked("place a;place b;place |a", 2);
        marked("place a;person |a at a kind 1;", 2);
        marked("place a;person p at a kind 1;person |p at a kind 1;", 2);
        marked("place a;person p at a kind 1;place |p;", 2);
        good("place a;place aa;place aaa;place ab;place b;", 5);
    }

    private static void askedNames() {
        marked(AHEAD + "road |x to a;", 3);
        marked(AHEAD + "road |p to a;", 3);
        marked(AHEAD + "road a to |x;", 3);
        marked(AHEAD + "road a to |p;", 3);
        marked(AHEAD + "road a to |a;", 3);
        marked(AHEAD + "road a to |b;", 3);
        marked(AHEAD + "road b to |a;", 3);
        marked(AHEAD + "person q at |x kind 1;", 3);
        marked(AHEAD + "person q at |p kind 1;", 3);
        marked("place a;person q at |q kind 1;", 3);
        marked(AHEAD + "watch |q;", 3);
        marked(AHEAD + "watch |a;", 3);
        marked(AHEAD + "watch p;watch |p;", 3);
        marked(AHEAD + "frame 1 |x 1;", 3);
        marked(AHEAD + "frame 1 |p 1;", 3);
        marked(AHEAD + "frame 1 a 1;frame 1 |a 1;", 3);
        marked(AHEAD + "frame 1 a 1;frame 1 |a 9;", 3);
        good(AHEAD + "frame 1 a 1;frame 1 b 1;frame 2 a 1;", 7);
        marked("road |a to b;place a;place b;", 3);
        marked("watch |p;place a;person p at a kind 1;", 3);
    }

    private static void numbers() {
        good("place a;person p at a kind 0;person q at a kind 9;", 3);
        marked("place a;person p at a kind |10;", 4);
        marked("place a;person p at a kind |9999;", 4);
        marked("place a;frame |0 a 1;", 4);
        marked("place a;frame |9 a 1;", 4);
        marked("place a;frame |9 x 9;", 4);
        good("place a;frame 1 a 0;frame 8 a 6;", 3);
        marked("place a;frame 1 a |7;", 4);
        marked("place a;frame 1 a |7", 4);
        marked("rain |101;", 4);
        marked("rain 5;rain |9999", 4);
    }

    private static void openOnes() {
        good("goes (((((((1)))))));", 1);
        marked("goes (((((((|(1))))))));", 5);
        good("stays [[[[[[[all]]]]]]];", 1);
        marked("stays [[[[[[[|[all]]]]]]]];", 5);
        good("stays not not not not not not not all;", 1);
        marked("stays not not not not not not not |not all;", 5);
        good("stays not not not not not not not all and not not not not not not not all;", 1);
        good("stays [not not not not not not all or not all];", 1);
        marked("stays [not not not not not not |[all]];", 5);
        marked("stays [not not not (((1+min|(1,2))))=2];", 5);
        marked("goes ((((((if(all,min|(1,2),3))))))", 5);
        good("goes ((((((if(all,kind,3)))))));", 1);
        good("goes (1)+(1)+(1)+(1)+(1)+(1)+(1)+(1)+(1);", 1);
        good("goes min(1,2)+min(1,2)+min(1,2)+min(1,2)+min(1,2)+min(1,2)+min(1,2)+min(1,2);", 1);
        marked("goes if(not not not not not not |not all,1,2);", 5);
        good("goes if(not not not not not not all,1,2);", 1);
        good("goes min(((((((1)))))),((((((1)))))));", 1);
        marked("goes min(((((((|(1", 5);
        marked("goes min(1,((((((|(1", 5);
        marked("goes max(1,((((((|(1", 5);
        good("goes if(((((((1))))))=1,((((((1)))))),((((((1)))))));", 1);
        marked("goes if(((((((|(1", 5);
        marked("goes if(all,((((((|(1", 5);
        marked("goes if(all,1,((((((|(1", 5);
        marked("goes if([[[[[[|[all", 5);
        good("goes ((1)+((2))*min((1),2))+((((((3))))));", 1);
        marked("goes (((((((|[", 1);
        marked("goes (((((((1|(", 1);
        marked("goes (((((((|not", 1);
        marked("goes (((((((min|)", 1);
    }

    private static void tooMany() {
        String seven = "place a;place b;place c;place d;place e;place f;place g;";
        good(seven, 7);
        marked(seven + "|place h;", 6);
        marked(seven + "|place", 6);
        marked(seven + "|place a;", 6);
        String roads = seven + "road a to b;road a to c;road a to d;road a to e;road a to f;road a to g;"
                + "road b to c;road b to d;road b to e;road b to f;road b to g;road c to d;";
        good(roads, 19);
        marked(roads + "|road c to e;", 6);
        String people = "place a;person p at a kind 1;person q at a kind 1;person r at a kind 1;"
                + "person s at a kind 1;person t at a kind 1;person u at a kind 1;";
        good(people, 7);
        marked(people + "|person v at a kind 1;", 6);
        good(people + "watch p;watch q;watch r;watch s;watch t;watch u;", 13);
        marked(people + "watch p;watch q;watch r;watch s;watch t;watch u;watch |p;", 3);
        String frames = "place a;frame 1 a 1;frame 2 a 1;frame 3 a 1;frame 4 a 1;"
                + "frame 5 a 1;frame 6 a 1;frame 7 a 1;frame 8 a 1;";
        good(frames, 9);
        marked(frames + "|frame 1 a 1;", 6);
        marked("stays all;|stays all;", 6);
        marked("goes 1;|goes 1;", 6);
        marked("goes 1;stays all;|goes", 6);
        good("rain 1;rain 2;rain 3;", 3);
    }

    private static void tooManyStatements() {
        String eighty = "rain 1;".repeat(80);
        marked(eighty + "|rain 1;", 6);
        marked(eighty + " |place a;", 6);
        marked(eighty + "\n|goes", 6);
        marked("rain 1;".repeat(79) + "rain |101;rain 1;rain 1;", 4);
        marked("rain 1;".repeat(79) + "|x;", 1);
    }

    private static void formulas() {
        good("stays kind+step%3=here*4 or shown=day;goes shown*there-far/2;", 2);
        marked("stays |there=1;", 1);
        marked("stays |far=1;", 1);
        marked("stays 1<if(|far=1,2,3);", 1);
        marked("stays 1<min(2,|there);", 1);
        good("goes if(there=far,there,far);", 1);
        marked("stays 1|;", 1);
        marked("stays (1|<2);", 1);
        marked("stays 1<|=2;", 1);
        marked("stays 1<2|<3;", 1);
        marked("stays [all|);", 1);
        marked("stays all |all;", 1);
        marked("stays |;", 1);
        marked("stays |x=1;", 1);
        marked("stays not |or all;", 1);
        marked("goes |all;", 1);
        marked("goes |[1];", 1);
        marked("goes |not all;", 1);
        marked("goes 1|<2;", 1);
        marked("goes |-1;", 1);
        marked("goes 1+|;", 1);
        marked("goes 1+|+2;", 1);
        marked("goes 1 |or 2;", 1);
        marked("goes (1|;", 1);
        marked("goes (1|];", 1);
        marked("goes min|[1,2);", 1);
        marked("goes min(1|);", 1);
        marked("goes max(1,2|,3);", 1);
        marked("goes if(1|,2,3);", 1);
        marked("goes if(all,2|);", 1);
        marked("goes if(all,|all,3);", 1);
        marked("goes |place;", 1);
        marked("goes 1|^2;", 1);
    }

    private static void whatStays() {
        SilentReel x = Check.of(AHEAD + "watch p;frame 1 a 1;");
        x.seed(77);
        x.send(0, 1);
        x.days(2);
        Check.put(x, 1, 0, 1);
        x.see();
        Check.due("town() with a fault", Check.town(x, "place z;place z;"), -1);
        Check.due("its fault", x.fault(0), 2);
        Check.due("its place", x.fault(1), 14);
        Check.due("has(0)", x.has(0), 2);
        Check.due("has(1)", x.has(1), 1);
        Check.due("has(2)", x.has(2), 1);
        Check.due("has(3)", x.has(3), 2);
        Check.due("has(5)", x.has(5), 1);
        Check.due("has(7)", x.has(7), 2);
        Check.due("has(8)", x.has(8), 1);
        Check.due("has(9)", x.has(9), 2);
        Check.due("has(10)", x.has(10), 77);
        Check.due("letter(0, 0, 0)", x.letter(0, 0, 0), 1);
        Check.due("far(0, 1)", x.far(0, 1), 1);
    }

    /** Towns told one behind the other, the first with all that the third is without. */
    private static void nothingOfOldTowns() {
        SilentReel x = Check.of(AHEAD + "watch p;frame 1 a 1;stays all;rain 100;");
        Check.due("where(0, 8) of the first", x.where(0, 8), 0);
        Check.town(x, "place a;place b;place c;place d;road c to b;person q at c kind 1;stays all;goes far;");
        Check.due("where(0, 8) of the second", x.where(0, 8), 2);
        Check.due("far(2, 1) of the second", x.far(2, 1), 1);
        Check.due("far(0, 1) of the second", x.far(0, 1), -1);
        Check.town(x, "place a;place b;road b to a;person p at b kind 0;frame 1 a 1;frame 2 a 0;");
        Check.due("has(5) of the third", x.has(5), 0);
        Check.due("where(0, 0) of the third", x.where(0, 0), 1);
        Check.due("where(0, 1) of the third", x.where(0, 1), 0);
        Check.due("chance(1) of the third: no rain", x.chance(1), 0);
        Check.town(x, "place c;place a;place b;road a to b;person p at a kind 0;");
        Check.due("where(0, 1) of the fourth: no goes", x.where(0, 1), 1);
        Check.due("letter(0, 0, 0) of the fourth", x.letter(0, 0, 0), 3);
        SilentReel full = Check.of("place a;place b;road a to b;" + "rain 1;".repeat(77));
        Check.due("far(0, 1) with 80 statements", full.far(0, 1), 1);
        Check.due("far(0, 0) with 80 statements", full.far(0, 0), 0);
    }

    private static void whatGoes() {
        SilentReel x = Check.of(AHEAD + "watch p;frame 1 a 1;stays all;goes 0-far;rain 100;");
        x.seed(77);
        x.send(0, 1);
        x.days(2);
        x.cut(0);
        Check.put(x, 1, 0, 1);
        x.see();
        Check.due("a fault ahead", Check.town(x, "xx"), -1);
        Check.due("town()", Check.town(x, "place b;place a;person q at a kind 2;frame 2 b 3;road a to b;"), 5);
        Check.due("fault(0)", x.fault(0), 0);
        Check.due("fault(1)", x.fault(1), -1);
        Check.due("status(1)", x.status(1), 1);
        Check.due("has(0)", x.has(0), 2);
        Check.due("has(1)", x.has(1), 1);
        Check.due("has(2)", x.has(2), 1);
        Check.due("has(3)", x.has(3), 0);
        Check.due("has(4)", x.has(4), 1);
        Check.due("has(5)", x.has(5), 0);
        Check.due("has(7)", x.has(7), 0);
        Check.due("has(8)", x.has(8), 0);
        Check.due("has(9)", x.has(9), 0);
        Check.due("has(10)", x.has(10), 77);
        Check.due("where(0, 0)", x.where(0, 0), 1);
        Check.due("where(0, 1): no stays, no goes, the first place", x.where(0, 1), 0);
        Check.due("chance(1): no rain", x.chance(1), 0);
        Check.due("town() of nothing", x.town(), 0);
        for (int what = 0; what <= 9; what++) {
            Check.due("has(" + what + ") of nothing", x.has(what), 0);
        }
        Check.due("person(0, 0) of nothing", x.person(0, 0), -1);
        Check.due("far(0, 0) of nothing", x.far(0, 0), -1);
    }
}
