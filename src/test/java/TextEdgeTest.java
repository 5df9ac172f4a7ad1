import java.util.ArrayList;
import java.util.List;

/** Terms I: each limit of a text, at it and one beyond it. Each method is of one sentence, which it quotes. */
public final class TextEdgeTest {
    private static final String AHEAD = "place a;place b;road a to b;person p at a kind 1;";
    private static final String NAME = "zz";
    private static final String NUMBER = "7";
    private static final String SUM = "7 ( kind step day here shown min max if ";
    private static final String FAR = "there far ";
    private static final String TEST = "not [ all " + SUM;
    private static final String MORE = "+ - * / % ";
    private static final String COMPARED = MORE + "< > = ";
    /** What stands ahead, and all that may come next. */
    private static final String[][] NEXT = {
        {"", "place road person watch frame stays goes rain"},
        {"rain 1 ; ", "place road person watch frame stays goes rain"},
        {"place ", NAME}, {"place a ", ";"},
        {"road ", NAME}, {"place a;road a ", "to"}, {"place a;road a to ", NAME}, {"place a;place b;road a to b ", ";"},
        {"person ", NAME}, {"person p ", "at"}, {"person p at ", NAME}, {"place a;person p at a ", "kind"},
        {"place a;person p at a kind ", NUMBER}, {"place a;person p at a kind 1 ", ";"},
        {"watch ", NAME}, {"place a;person p at a kind 1;watch p ", ";"},
        {"frame ", NUMBER}, {"frame 1 ", NAME}, {"place a;frame 1 a ", NUMBER}, {"place a;frame 1 a 1 ", ";"},
        {"rain ", NUMBER}, {"rain 1 ", ";"},
        {"stays ", TEST}, {"stays not ", TEST}, {"stays [ ", TEST}, {"stays all and ", TEST}, {"stays all or ", TEST},
        {"stays all ", "and or ;"}, {"stays not all ", "and or ;"}, {"stays [ all ", "and or ]"},
        {"stays [ all ] ", "and or ;"}, {"stays 1 ", COMPARED}, {"stays kind ", COMPARED}, {"stays not 1 ", COMPARED},
        {"stays ( 1 ) ", COMPARED}, {"stays ( 1 ", MORE + ")"}, {"stays 1 < ", SUM}, {"stays 1 = ", SUM},
        {"stays 1 > 2 ", MORE + "and or ;"}, {"stays [ 1 < 2 ", MORE + "and or ]"}, {"stays 1 + ", SUM},
        {"goes ", SUM + FAR}, {"goes 1 + ", SUM + FAR}, {"goes 1 - ", SUM + FAR}, {"goes 1 * ", SUM + FAR},
        {"goes 1 / ", SUM + FAR}, {"goes 1 % ", SUM + FAR}, {"goes ( ", SUM + FAR}, {"goes 1 ", MORE + ";"},
        {"goes far ", MORE + ";"}, {"goes ( 1 ", MORE + ")"}, {"goes ( 1 ) ", MORE + ";"},
        {"goes min ", "("}, {"goes max ", "("}, {"goes min ( ", SUM + FAR}, {"goes max ( 1 ", MORE + ","},
        {"goes min ( 1 , ", SUM + FAR}, {"goes max ( 1 , 2 ", MORE + ")"}, {"goes min ( 1 , 2 ) ", MORE + ";"},
        {"goes if ", "("}, {"goes if ( ", TEST + FAR}, {"goes if ( all ", "and or ,"}, {"goes if ( 1 ", COMPARED},
        {"goes if ( 1 < ", SUM + FAR}, {"goes if ( 1 < 2 ", MORE + "and or ,"}, {"goes if ( [ all ", "and or ]"},
        {"goes if ( all , ", SUM + FAR}, {"goes if ( all , 1 ", MORE + ","}, {"goes if ( all , 1 , ", SUM + FAR},
        {"goes if ( all , 1 , 2 ", MORE + ")"}, {"goes if ( all , 1 , 2 ) ", MORE + ";"}};

    public static void main(String[] args) {
        eightyStatements();
        whateverTheNextIs();
        sevenPlaces();
        twelveRoads();
        roadsUnlike();
        sixPeople();
        kinds();
        watchers();
        stepsOfFrames();
        peopleOfFrames();
        framesOfBoth();
        eightFrames();
        oneEach();
        rain();
        lastRainCounts();
        lettersOfNames();
        digitsOfNumbers();
        bytesOfNames();
        bytesOfNumbers();
        unlikeNames();
        toldAhead();
        blanks();
        needOne();
        ownWords();
        endsTooSoon();
        wholeTape();
        sevenOpen();
        notUntilItsFactEnds();
        inGoesAlone();
        noTownGoesOn();
        firstAlongTheText();
        Check.finish();
    }

    /** "{ STATEMENT ; } (80 at most)" */
    private static void eightyStatements() {
        Texts.good("", 0);
        Texts.good("rain 1;".repeat(79), 79);
        Texts.good("rain 1;".repeat(80), 80);
        Texts.good("rain 1;".repeat(80) + " \n ", 80);
        Texts.marked("rain 1;".repeat(80) + "|rain 1;", 6);
        Texts.marked("rain 1;".repeat(80) + "\n |rain 1;", 6);
        SilentReel x = Texts.good(Texts.TWELVE + "person p at g kind 1;watch p;frame 1 g 1;" + "rain 1;".repeat(56)
                + "stays all;goes 1;", 80);
        Check.due("has(1) of 80 statements", x.has(1), 12);
        Check.due("far(0, 0) of 80 statements", x.far(0, 0), 0);
        Check.due("far(2, 6) of 80 statements", x.far(2, 6), 2);
        Check.due("where(0, 8) of 80 statements", x.where(0, 8), 6);
    }

    /** "the 81st STATEMENT (whatever it is), at its first byte" */
    private static void whateverTheNextIs() {
        String eighty = AHEAD + "rain 1;".repeat(76);
        String[] next = {"place c;", "road a to b;", "person q at a kind 10;", "watch p;", "frame 9 a 9;", "stays x;",
            "goes;", "rain 101;", "rain", "r", ";", "7", "abcdefgh", "12345", "(", "\0", "\u00ff"};
        for (String what : next) {
            Texts.marked(eighty + "|" + what, 6);
            Texts.marked(eighty + " \n|" + what, 6);
        }
        Texts.marked(AHEAD + "rain 1;".repeat(75) + "|;", 1);
        Texts.marked(AHEAD + "rain 1;".repeat(75) + "rain |101;rain 1;", 4);
        Texts.marked(AHEAD + "rain 1;".repeat(75) + "rain 1 |rain 1;", 1);
    }

    /** "7 PLACES" */
    private static void sevenPlaces() {
        SilentReel x = Texts.good(Texts.SEVEN, 7);
        Check.due("has(0) of seven", x.has(0), 7);
        Check.due("letter(0, 6, 0) of seven", x.letter(0, 6, 0), 7);
        Check.due("who(6, 8) of seven", x.who(6, 8), 0);
        Check.due("who(7, 8) of seven", x.who(7, 8), -1);
        Check.due("empty() of seven", x.empty(), 127);
        Texts.marked(Texts.SEVEN + "|place h;", 6);
        Texts.marked(Texts.SEVEN + "rain 1;|place", 6);
        Texts.marked(Texts.SEVEN + "|place a;", 6);
        Texts.marked(Texts.SEVEN + "|place to;", 6);
        SilentReel late = Texts.good("place a;place b;place c;place d;place e;road a to b;road a to c;road a to d;"
                + "road a to e;road b to c;road b to d;road b to e;road c to d;person p at e kind 1;place f;place g;", 16);
        Check.due("has(0) behind eight roads", late.has(0), 7);
        Check.due("letter(0, 6, 0) behind eight roads", late.letter(0, 6, 0), 7);
        Check.due("far(6, 6) behind eight roads", late.far(6, 6), 0);
    }

    /** "12 ROADS" */
    private static void twelveRoads() {
        SilentReel x = Texts.good(Texts.TWELVE, 19);
        Check.due("has(1) of twelve", x.has(1), 12);
        Check.due("far(2, 3) of twelve", x.far(2, 3), 1);
        Check.due("far(2, 4) of twelve", x.far(2, 4), 2);
        Texts.marked(Texts.TWELVE + "|road c to e;", 6);
        Texts.marked(Texts.TWELVE + "|road a to b;", 6);
        Texts.marked(Texts.TWELVE + "|road", 6);
    }

    /** "two unlike PLACES, not told in either order already"; "at the second" */
    private static void roadsUnlike() {
        Texts.good(AHEAD + "place c;road a to c;road c to b;", 7);
        Texts.marked("place a;place b;road a to |a;", 3);
        Texts.marked("place a;place b;road b to |b;", 3);
        Texts.marked("place a;place b;road a to b;road a to |b;", 3);
        Texts.marked("place a;place b;road a to b;road b to |a;", 3);
        Texts.marked("place a;place b;road b to a;road a to |b;", 3);
    }

    /** "6 PEOPLE" */
    private static void sixPeople() {
        SilentReel x = Texts.good(Texts.SIX, 7);
        Check.due("has(2) of six", x.has(2), 6);
        Check.due("letter(1, 5, 0) of six", x.letter(1, 5, 0), 21);
        Check.due("who(0, 8) of six", x.who(0, 8), 63);
        Check.due("person(6, 0) of six", x.person(6, 0), -1);
        Texts.marked(Texts.SIX + "|person v at a kind 1;", 6);
        Texts.marked(Texts.SIX + "|person p at a kind 1;", 6);
        Texts.marked(Texts.SIX + "|person", 6);
    }

    /** "person NAME at NAME kind N (a PLACE; 0 .. 9" */
    private static void kinds() {
        for (int kind = 0; kind <= 9; kind++) {
            SilentReel x = Texts.good("place a;person p at a kind " + kind + ";", 2);
            Check.due("person(0, 1) of kind " + kind, x.person(0, 1), kind);
        }
        Texts.marked("place a;person p at a kind |10;", 4);
        Texts.marked("place a;person p at a kind |11;", 4);
        Texts.marked("place a;person p at a kind |9999;", 4);
        Texts.marked("place a;person p at a kind |-1;", 1);
        Texts.marked("place a;person p at |p kind 1;", 3);
        Texts.marked("place a;person p at a kind 1;person q at |p kind 1;", 3);
        Texts.marked("place a;person p at |b kind 1;", 3);
    }

    /** "watch NAME (a PERSON, not told so already)"; "one who watches already" */
    private static void watchers() {
        String all = "watch u;watch t;watch s;watch r;watch q;watch p;";
        Check.due("has(5) of six", Texts.good(Texts.SIX + all, 13).has(5), 6);
        Texts.marked(Texts.SIX + "watch |a;", 3);
        Texts.marked(Texts.SIX + "watch |v;", 3);
        Texts.marked(Texts.SIX + "watch p;watch |p;", 3);
        Texts.marked(Texts.SIX + all + "watch |u;", 3);
        Texts.marked(Texts.SIX + all + "watch |p;", 3);
    }

    /** "frame N NAME N (a STEP 1 .. 8" */
    private static void stepsOfFrames() {
        for (int step = 1; step <= 8; step++) {
            SilentReel x = Texts.good("place a;frame " + step + " a 1;", 2);
            Check.due("frame(0, 0) of step " + step, x.frame(0, 0), step);
        }
        Texts.marked("place a;frame |0 a 1;", 4);
        Texts.marked("place a;frame |0000 a 1;", 4);
        Texts.marked("place a;frame |9 a 1;", 4);
        Texts.marked("place a;frame |9999 a 1;", 4);
    }

    /** "a PLACE, 0 .. 6 people" */
    private static void peopleOfFrames() {
        for (int many = 0; many <= 6; many++) {
            SilentReel x = Texts.good("place a;frame 1 a " + many + ";", 2);
            Check.due("frame(0, 2) of " + many, x.frame(0, 2), many);
        }
        Texts.marked("place a;frame 1 a |7;", 4);
        Texts.marked("place a;frame 1 a |10;", 4);
        Texts.marked("place a;frame 1 a |9999;", 4);
        Texts.marked("place a;person p at a kind 1;frame 1 |p 1;", 3);
        Texts.marked("place a;frame 1 |b 1;", 3);
    }

    /** "not told of both already"; "a FRAME told already: at its PLACE" */
    private static void framesOfBoth() {
        Texts.good("place a;place b;frame 1 a 1;frame 1 b 1;frame 2 a 1;frame 2 b 1;", 6);
        SilentReel x = Texts.good("place a;place b;place c;frame 1 c 3;frame 2 b 4;", 5);
        Check.due("has(4) of both the other way", x.has(4), 2);
        Check.due("frame(0, 2) of both the other way", x.frame(0, 2), 3);
        Check.due("frame(1, 2) of both the other way", x.frame(1, 2), 4);
        Texts.marked("place a;place b;frame 1 a 1;frame 1 |a 1;", 3);
        Texts.marked("place a;place b;frame 1 a 1;frame 1 |a 2;", 3);
        Texts.marked("place a;place b;frame 1 a 1;frame 1 |a 7;", 3);
        Texts.marked("place a;place b;frame 8 b 6;frame 8 a 6;frame 8 |b", 3);
    }

    /** "8 FRAMES" */
    private static void eightFrames() {
        SilentReel x = Texts.good(Texts.EIGHT, 9);
        Check.due("has(4) of eight", x.has(4), 8);
        Check.due("frame(7, 0) of eight", x.frame(7, 0), 8);
        Check.due("frame(8, 0) of eight", x.frame(8, 0), -1);
        Texts.marked(Texts.EIGHT + "|frame 1 a 1;", 6);
        Texts.marked(Texts.EIGHT + "place b;|frame 1 b 1;", 6);
        Texts.marked(Texts.EIGHT + "|frame 9", 6);
    }

    /** "stays TEST, goes SUM (one each)"; "a second stays, goes, too" */
    private static void oneEach() {
        Texts.good("stays all;goes 1;", 2);
        Texts.good("goes 1;stays all;", 2);
        Texts.marked("stays all;|stays all;", 6);
        Texts.marked("stays not all;goes 1;|stays", 6);
        Texts.marked("goes 0;|goes 0;", 6);
        Texts.marked("goes 1;stays all;|goes", 6);
    }

    /** "rain N (0 .. 100)" */
    private static void rain() {
        Texts.good("rain 0;", 1);
        Texts.good("rain 1;", 1);
        Texts.good("rain 99;", 1);
        Texts.good("rain 100;", 1);
        Texts.marked("rain |101;", 4);
        Texts.marked("rain |102;", 4);
        Texts.marked("rain |9999;", 4);
    }

    /** "the last one counts (0 without)": from seed 1 the first draw of 100 is 18 */
    private static void lastRainCounts() {
        String[] rains = {"", "rain 0;", "rain 18;", "rain 19;", "rain 100;", "rain 100;rain 18;", "rain 0;rain 19;",
            "rain 19;rain 100;rain 0;"};
        int[] due = {0, 0, 0, 1, 1, 0, 1, 0};
        for (int k = 0; k < rains.length; k++) {
            Check.due("chance(1) of " + rains[k], Check.of("place a;frame 1 a 0;" + rains[k]).chance(1), due[k]);
        }
        SilentReel x = Check.of("place a;frame 1 a 0;rain 100;");
        for (int k = 1; k <= 3; k++) {
            Check.town(x, "place a;frame 1 a 0;");
            Check.due("chance(1) without rain, " + k + " behind a town with it", x.chance(1), 0);
        }
        // a seed whose draw is 0, which is below 1 and not below 0
        int seed = 0;
        while (!drawsNought(seed)) {
            seed++;
        }
        x.seed(seed);
        Check.town(x, "place a;frame 1 a 0;");
        Check.due("chance(1) without rain by a draw of 0", x.chance(1), 0);
    }

    private static boolean drawsNought(int seed) {
        return ((1103515245L * seed + 12345L) % (1L << 31)) / 64 % 100 == 0;
    }

    /** "NAMES: 1 to 6 letters"; "a 7th letter .. at itself, whatever may stand there" */
    private static void lettersOfNames() {
        for (int letters = 1; letters <= 6; letters++) {
            String name = "zyxwvu".substring(0, letters);
            SilentReel x = Texts.good("place " + name + ";person q" + name.substring(1) + " at " + name + " kind 1;", 2);
            Check.due("the last letter of " + name, x.letter(0, 0, letters - 1), 27 - letters);
            Check.due("the one behind it", x.letter(0, 0, letters), letters == 6 ? -1 : 0);
        }
        Texts.marked("place zyxwvu|t;", 1);
        Texts.marked("place zyxwvu|tsrq;", 1);
        Texts.marked("place a;person zyxwvu|t at a kind 1;", 1);
        Texts.marked("place aaaaaa;road aaaaaa|a to aaaaaa;", 1);
        Texts.marked("place aaaaaa;place b;road b to aaaaaa|a;", 1);
        Texts.marked("place aaaaaa;person p at aaaaaa|a kind 1;", 1);
        Texts.marked("place aaaaaa;frame 1 aaaaaa|a 1;", 1);
        Texts.marked("watch aaaaaa|a;", 1);
        Texts.marked("aaaaaa|a", 1);
        Texts.marked("person|s p;", 1);
        Texts.marked("place a aaaaaa|a;", 1);
        Texts.marked("rain aaaaaa|a;", 1);
        Texts.marked("rain 1 aaaaaa|a;", 1);
        Texts.marked("goes aaaaaa|a;", 1);
        Texts.marked("goes min(1 aaaaaa|a", 1);
        Texts.marked("stays aaaaaa|a;", 1);
        Texts.marked("stays all aaaaaa|a;", 1);
    }

    /** "NUMBERS: 1 to 4 digits"; "a 5th digit at itself, whatever may stand there" */
    private static void digitsOfNumbers() {
        Texts.holds("9=09");
        Texts.holds("0009=9");
        Texts.holds("9999=10*1000-1");
        Texts.holds("0000=0");
        SilentReel x = Texts.good("place a;person p at a kind 0009;frame 0008 a 0006;rain 0100;", 4);
        Check.due("person(0, 1) of 0009", x.person(0, 1), 9);
        Check.due("frame(0, 0) of 0008", x.frame(0, 0), 8);
        Check.due("frame(0, 2) of 0006", x.frame(0, 2), 6);
        Texts.marked("goes 9999|9;", 1);
        Texts.marked("goes 0000|0;", 1);
        Texts.marked("stays 1=0000|1;", 1);
        Texts.marked("rain 0000|1;", 1);
        Texts.marked("rain 9999|9;", 1);
        Texts.marked("rain 9999|0;", 1);
        Texts.marked("place a;frame 9999|0 a 1;", 1);
        Texts.marked("place a;person p at a kind 0000|1;", 1);
        Texts.marked("place a;frame 0000|1 a 1;", 1);
        Texts.marked("place a;frame 1 a 0000|1;", 1);
        Texts.marked("0000|1", 1);
        Texts.marked("place 0000|1;", 1);
        Texts.marked("place a 0000|1;", 1);
        Texts.marked("watch 0000|1;", 1);
        Texts.marked("road 0000|1 to a;", 1);
        Texts.marked("place a;road a to 0000|1;", 1);
        Texts.marked("place a;person p at 0000|1;", 1);
        Texts.marked("place a;frame 1 0000|1 1;", 1);
        Texts.marked("goes 1 0000|1;", 1);
        Texts.marked("stays all 0000|1;", 1);
    }

    /** A letter is a byte from a to z: those next to them are none, nor those that are 128 more. */
    private static void bytesOfNames() {
        for (int octet = 0; octet < 256; octet++) {
            char sign = (char) octet;
            boolean letter = sign >= 'a' && sign <= 'z';
            if (letter) {
                Check.due("letter(0, 0, 0) of " + octet, Texts.good("place " + sign + ";", 1).letter(0, 0, 0),
                        octet - 'a' + 1);
                Check.due("letter(0, 0, 1) of " + octet, Texts.good("place q" + sign + ";", 1).letter(0, 0, 1),
                        octet - 'a' + 1);
            } else if (sign == ' ' || sign == '\n') {
                Texts.good("place q" + sign + ";", 1);
            } else if (sign != ';') {
                Texts.bad("place " + sign + ";", 1, 6);
                Texts.bad("place q" + sign + ";", 1, 7);
            }
        }
        Texts.bad("place ;;", 1, 6);
        Texts.bad("place q;;", 1, 8);
    }

    /** A digit is a byte from 0 to 9. */
    private static void bytesOfNumbers() {
        for (int octet = 0; octet < 256; octet++) {
            char sign = (char) octet;
            boolean digit = sign >= '0' && sign <= '9';
            if (digit || sign == ' ' || sign == '\n') {
                Texts.good("rain 4" + sign + ";", 1);
            } else if (sign != ';') {
                Texts.bad("rain 4" + sign + ";", 1, 6);
            }
            if (digit) {
                Texts.good("rain " + sign + ";", 1);
            } else {
                Texts.bad("rain " + sign, 1, sign == ' ' || sign == '\n' ? 6 : 5);
            }
        }
    }

    /** "unlike ones (of all sorts)"; "2 a NAME to be given that is there already, at its first byte" */
    private static void unlikeNames() {
        Texts.good("place a;place aa;place ab;place ba;place aaa;person aab at a kind 1;person b at a kind 1;", 7);
        Texts.good("place abcdef;place abcdeg;place bbcdef;", 3);
        Texts.marked("place abcdef;place |abcdef;", 2);
        Texts.marked("place a;place |a;", 2);
        Texts.marked("place a;place b;place c;place |c;", 2);
        Texts.marked("place a;person |a at a kind 1;", 2);
        Texts.marked("place a;person p at a kind 1;person |p at a kind 1;", 2);
        Texts.marked("place a;person p at a kind 1;place |p;", 2);
        Texts.marked("place a;person p at a kind 1;place b;place |p", 2);
    }

    /** "told ahead of where they are asked" */
    private static void toldAhead() {
        Texts.good("place a;person p at a kind 1;watch p;place b;road b to a;frame 1 b 1;", 6);
        Texts.marked("road |a to b;place a;place b;", 3);
        Texts.marked("place a;road a to |b;place b;", 3);
        Texts.marked("person p at |a kind 1;place a;", 3);
        Texts.marked("place a;watch |p;person p at a kind 1;", 3);
        Texts.marked("frame 1 |a 1;place a;", 3);
        Texts.marked("place a;person p at |p kind 1;", 3);
    }

    /** "Blanks (10, 32) are where one likes" */
    private static void blanks() {
        for (int octet = 0; octet < 256; octet++) {
            char sign = (char) octet;
            if (octet == 10 || octet == 32) {
                Texts.good("" + sign, 0);
                Texts.good(sign + "place" + sign + "a" + sign + ";" + sign, 1);
                Texts.good("goes" + sign + "min" + sign + "(" + sign + "1" + sign + "," + sign + "2" + sign + ")"
                        + sign + ";", 1);
            } else {
                Texts.bad("" + sign, 1, 0);
                if (sign < 'a' || sign > 'z') {
                    Texts.bad("rain 1;" + sign + "rain 1;", 1, 7);
                }
            }
        }
        Texts.marked("|ra in 1;", 1);
        Texts.marked("rain 1 |2;", 1);
        Texts.marked("place a |b;", 1);
        Texts.good(" \n".repeat(400) + "rain 1;", 1);
    }

    /** "words and numbers side by side need one" */
    private static void needOne() {
        Texts.marked("rain|1;", 1);
        Texts.marked("place a|59", 1);
        Texts.marked("goes kind|43 1;", 1);
        Texts.marked("place a;frame|1 a 1;", 1);
        Texts.marked("place a;frame 1|a 1;", 1);
        Texts.marked("place a;frame 1 a|1;", 1);
        Texts.marked("place a;person p at a kind|1;", 1);
        Texts.marked("place abcdef|1;", 1);
        Texts.marked("place a;frame 1|abcdefg 1;", 1);
        Texts.marked("rain|12345;", 1);
        Texts.marked("stays 1=1|and all;", 1);
        Texts.marked("stays not|1=1;", 1);
        Texts.marked("stays 1=9999|or all;", 1);
        Texts.marked("goes|1;", 1);
        Texts.good("goes(1);", 1);
        Texts.good("goes 1+kind;", 1);
        Texts.good("goes min(kind,1)*max(1,kind);", 1);
        Texts.good("stays[all]and[1<kind]or not[all];", 1);
        Texts.good("stays not(1)=1;rain 1;", 2);
    }

    /** "OWN WORDS, which no NAME is"; "an OWN WORD where a NAME must be" */
    private static void ownWords() {
        for (String word : Texts.OWN) {
            Texts.marked("place |" + word + ";", 1);
            Texts.marked("place a;person |" + word + " at a kind 1;", 1);
            Texts.marked("place a;road |" + word + " to a;", 1);
            Texts.marked("place a;road a to |" + word + ";", 1);
            Texts.marked("place a;person p at |" + word + " kind 1;", 1);
            Texts.marked("watch |" + word + ";", 1);
            Texts.marked("place a;frame 1 |" + word + " 1;", 1);
            Texts.good("place q" + word.substring(1) + ";", 1);
            Texts.good("place " + word.substring(0, word.length() - 1) + ";", 1);
            if (word.length() < 6) {
                Texts.good("place " + word + "q;", 1);
                Texts.good("place q" + word + ";", 1);
            } else {
                Texts.marked("place " + word + "|q;", 1);
            }
        }
        String[] others = {"town", "shows", "reel", "true", "cut", "send", "seed", "people", "roads", "is", "mod"};
        for (String word : others) {
            Texts.good("place " + word + ";", 1);
        }
    }

    /** "at the text's length, if it ends too soon" */
    private static void endsTooSoon() {
        String[] whole = {"place a ;", "place a;place b;road a to b ;", "place a;person p at a kind 1 ;",
            "place a;person p at a kind 1;watch p ;", "place a;frame 1 a 1 ;", "stays not [ 1 < 2 ] and all or all ;",
            "goes min ( 1 , 2 ) + max ( 1 , 2 ) * if ( all , 1 , ( 2 ) ) - 1 / 2 % 3 ;", "rain 1 ;"};
        for (String text : whole) {
            int from = text.lastIndexOf(';', text.length() - 2) + 1;
            for (int length = from + 1; length < text.length(); length++) {
                if (text.charAt(length) == ' ') {
                    Texts.bad(text.substring(0, length), 1, length);
                    Texts.bad(text.substring(0, length) + " ", 1, length + 1);
                    Texts.bad(text.substring(0, length) + "\n  \n", 1, length + 4);
                }
            }
            Texts.good(text.substring(0, from), (int) text.substring(0, from).chars().filter(c -> c == ';').count());
        }
    }

    /** The longest text that the tape holds is read to its last byte. */
    private static void wholeTape() {
        String row = "goes 0" + "+1".repeat(796);
        Texts.good(row + " ;", 1);
        Texts.good(row + "; ", 1);
        Texts.bad(row + "  ", 1, 1600);
        Texts.bad(row + "+1", 1, 1600);
        Texts.bad(row + ";x", 1, 1599);
        SilentReel x = Check.of("place a;place b;road a to b;person p at b kind 1;"
                + "stays 767=0" + "+1".repeat(767) + ";  ");
        Check.due("where(0, 8) by the longest test", x.where(0, 8), 1);
    }

    /** "5 the 8th ( [ not that is open at once .. at it" */
    private static void sevenOpen() {
        Texts.good("goes (((((((1)))))));", 1);
        Texts.marked("goes (((((((|(1))))))));", 5);
        Texts.good("stays [[[[[[[all]]]]]]];", 1);
        Texts.marked("stays [[[[[[[|[all]]]]]]]];", 5);
        Texts.good("stays " + "not ".repeat(7) + "all;", 1);
        Texts.marked("stays " + "not ".repeat(7) + "|not all;", 5);
        Texts.good("goes " + "min(".repeat(7) + "1" + ",1)".repeat(7) + ";", 1);
        Texts.marked("goes " + "min(".repeat(7) + "min|(1", 5);
        Texts.good("goes " + "max(".repeat(7) + "1" + ",1)".repeat(7) + ";", 1);
        Texts.marked("goes " + "max(".repeat(7) + "max|(1", 5);
        Texts.good("goes " + "if(all,1,".repeat(7) + "1" + ")".repeat(7) + ";", 1);
        Texts.marked("goes " + "if(all,1,".repeat(7) + "if|(all", 5);
        Texts.good("stays [not [not [not [1=1]]]];", 1);
        Texts.good("stays [not [not [not (1)=if(all,1,2)]]] or not not [not [not (1)=1]];", 1);
        Texts.marked("stays [not [not [not (1)=if(1=|(2),1,2)]]];", 5);
        Texts.marked("stays [not [not [not (1)=if(|not all,1,2)]]];", 5);
        Texts.marked("stays [not [not [not (1)=if(|[all],1,2)]]];", 5);
        Texts.marked("stays [not [not [not (1)=min(1,|(2))]]];", 5);
        Texts.marked("goes (((((((|(", 5);
        Texts.marked("goes (((((((|[", 1);
        Texts.marked("goes (((((((1|(", 1);
        Texts.marked("goes (((((((min |1", 1);
    }

    /** "(not until its FACT ends)": what stood open is closed again, and 7 more can be open */
    private static void notUntilItsFactEnds() {
        String seven = "not ".repeat(7);
        Texts.good("stays " + seven + "all and " + seven + "all or " + seven + "all;", 1);
        Texts.good("stays " + seven + "1=1 and (((((((1)))))))=1;", 1);
        Texts.marked("stays " + seven + "1=1 and " + seven + "|not all;", 5);
        Texts.marked("stays " + seven + "|(1)=1;", 5);
        Texts.marked("stays " + seven + "1+1=2*|(1);", 5);
        Texts.marked("stays " + seven + "|[all];", 5);
        Texts.good("stays " + "not ".repeat(6) + "(1)=(1);", 1);
        Texts.good("stays " + "not ".repeat(6) + "[all] and " + "not ".repeat(6) + "[all];", 1);
        Texts.marked("stays not [" + "not ".repeat(5) + "all and not not not not not |not all];", 5);
        Texts.good("stays not [" + "not ".repeat(5) + "all and not not not not not all];", 1);
        Texts.good("goes " + "(1)+".repeat(20) + "(((((((1)))))))*(((((((1)))))));", 1);
        Texts.good("goes min(((((((1)))))),1);", 1);
        Texts.marked("goes min(((((((1)))))),((((((|(1", 5);
        Texts.marked("goes if([[[[[[all]]]]]],((((((|(1", 5);
        Texts.marked("goes if([[[[[[all]]]]]],((((((1)))))),((((((|(1", 5);
    }

    /** "in goes: there; far" */
    private static void inGoesAlone() {
        Texts.good("goes there+far;", 1);
        Texts.good("goes if(there<far,min(there,far),(there));stays all;", 2);
        Texts.good("stays kind+step+day+here=shown;goes kind+step+day+here+shown;", 2);
        Texts.marked("stays |there=1;", 1);
        Texts.marked("stays |far=1;", 1);
        Texts.marked("stays 1=|far;", 1);
        Texts.marked("goes far;stays 1=|there;", 1);
        Texts.marked("stays 1=if(1=|far,1,2);", 1);
        Texts.marked("stays 1=min(1,(|there));", 1);
        Texts.marked("stays [not 1<|far];", 1);
    }

    /** "1 the first byte with which no TOWN goes on (words and numbers whole, at their first byte" */
    private static void noTownGoesOn() {
        List<String> all = new ArrayList<>(List.of(Texts.OWN));
        all.add(NAME);
        all.add(NUMBER);
        for (int octet = 0; octet < 256; octet++) {
            char sign = (char) octet;
            if (sign != ' ' && sign != '\n' && !(sign >= 'a' && sign <= 'z') && !(sign >= '0' && sign <= '9')) {
                all.add("" + sign);
            }
        }
        for (String[] next : NEXT) {
            List<String> may = List.of(next[1].trim().split(" "));
            for (String token : all) {
                SilentReel x = new SilentReel();
                String text = next[0] + token;
                boolean told = Check.town(x, text) != SilentReel.NONE;
                Check.due("fault 1 at " + next[0].length() + " of " + text,
                        x.fault(0) == 1 && x.fault(1) == next[0].length(), !may.contains(token));
                Check.due("a fault or a town of " + text, x.fault(0) == 0, told);
                Check.due("status(1) of " + text, x.status(1), told ? 0 : 1);
            }
        }
    }

    /** "FAULTS, the first along the text" */
    private static void firstAlongTheText() {
        Texts.marked("place a;place |a;road x to y;rain 101;", 2);
        Texts.marked("place a;road |x to a;place a;", 3);
        Texts.marked("rain |101;place a;place a;", 4);
        Texts.marked("place a;frame |9 x 7;", 4);
        Texts.marked("place a;frame 8 |x 7;", 3);
        Texts.marked("place a;frame 8 a |7 7", 4);
        Texts.marked("place a;person |a at x kind 10;", 2);
        Texts.marked("place a;person p at |x kind 10;", 3);
        Texts.marked("place a;person p at a |kinds 10;", 1);
        Texts.marked("place a;person p at a kind |10", 4);
        Texts.marked("place a;road |b to b;", 3);
        Texts.marked("place a;road a |a a;", 1);
        Texts.marked("place a;place |a", 2);
        Texts.marked("watch |p", 3);
        Texts.marked("goes (((((((|((((", 5);
        Texts.marked("goes 1;|goes ((((((((", 6);
        Texts.marked(Texts.SEVEN + "|place place;", 6);
        Texts.marked(Texts.SEVEN + "road a to |a;place h;", 3);
    }
}
