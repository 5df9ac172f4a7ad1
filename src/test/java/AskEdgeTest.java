import java.util.function.IntBinaryOperator;

/** Promises 6 to 22, the questions: each sentence that names an edge, and that no question leaves a trace. */
public final class AskEdgeTest {
    private static final String TWO = "place a;place b;road a to b;";
    private static final String ROW = "place a;place b;place c;road a to b;road b to c;";

    public static void main(String[] args) {
        hasOthers();
        hasAtTheLimits();
        letterBehindAName();
        letterOfNoneSuch();
        farFromItself();
        farWithoutAWay();
        farOfNoneSuch();
        personOfNoneSuch();
        frameOfNoneSuch();
        frameTrueOrNot();
        frameOfNobody();
        frameBehindItsStep();
        whereOfNoneSuch();
        whoOfNoneSuch();
        agreesWithoutFrames();
        selfOfNoneSuch();
        selfFromNoughtToSix();
        selfOfANinth();
        selfInPlaceOfWhatIsShown();
        selfAmongOthers();
        cutsOfNoneAndAll();
        cutsOfLikeOnes();
        crowdOfNoneAndAll();
        crowdOfLikeOnes();
        emptyOfNoneAndAll();
        emptyBehindAnyStep();
        laterOfNought();
        laterOfForty();
        laterOfNoneSuch();
        laterBeyondTheLastDay();
        meetOfForty();
        meetBehindOneStep();
        meetOfNoneSuch();
        meetBeyondTheLastDay();
        roundOfOneAtLeast();
        roundOfAll();
        roundOfForty();
        roundBeyondTheLastDay();
        seeOneToSixteen();
        seeAnyNumber();
        seeRefused();
        beganOfNoneSuch();
        beganByTheLatest();
        beganByAllRows();
        beganInNone();
        tellingOfLikeOnes();
        tellingInEachPlace();
        noQuestionLeavesATrace();
        Check.finish();
    }

    /** Both arguments in turn at the ends of int and one too many: each answer is NONE, and nothing is changed. */
    private static void none(String call, int firstTooMany, int secondTooMany, Ask asked) {
        for (int k = 0; k <= Shot.ENDS.length; k++) {
            int first = k == 0 ? firstTooMany : Shot.ENDS[k - 1];
            int second = k == 0 ? secondTooMany : Shot.ENDS[k - 1];
            Shot.asked(call + " of " + first, Shot.rich(), -1, x -> asked.of(x).applyAsInt(first, 1));
            Shot.asked(call + " by " + second, Shot.rich(), -1, x -> asked.of(x).applyAsInt(1, second));
            Shot.asked(call + " of both", Shot.rich(), -1, x -> asked.of(x).applyAsInt(first, second));
        }
    }

    private interface Ask {
        IntBinaryOperator of(SilentReel x);
    }

    /** A town whose day is the last but so many. */
    private static SilentReel nearTheEnd(String text, int daysLeft) {
        SilentReel x = Check.of(text);
        for (int k = 0; k < 24; k++) {
            x.days(40);
        }
        if (daysLeft < 39) {
            x.days(39 - daysLeft);
        }
        Check.due("has(3) near the end", x.has(3), 999 - daysLeft);
        return x;
    }

    // ---- promise 6

    /** "NONE for others" */
    private static void hasOthers() {
        SilentReel x = Shot.rich();
        Check.due("has(10)", x.has(10), 77);
        Check.due("has(11)", x.has(11), -1);
        for (int what : Shot.ENDS) {
            Check.due("has(" + what + ")", x.has(what), -1);
            Check.due("new has(" + what + ")", new SilentReel().has(what), -1);
        }
    }

    private static void hasAtTheLimits() {
        SilentReel x = Check.of(Texts.TWELVE + "person p at a kind 1;person q at a kind 1;person r at a kind 1;"
                + "person s at a kind 1;person t at a kind 1;person u at a kind 1;watch p;watch q;watch r;watch s;"
                + "watch t;watch u;stays all;frame 1 a 6;frame 2 a 6;frame 3 a 6;frame 4 a 6;frame 5 a 6;frame 6 a 6;"
                + "frame 7 a 6;frame 8 a 6;");
        int[] due = {7, 12, 6, 0, 8, 6, 8, 0, 0, 0, 1};
        for (int what = 0; what < due.length; what++) {
            Check.due("has(" + what + ") at the limits", x.has(what), due[what]);
        }
        for (int k = 0; k < 25; k++) {
            x.days(k < 24 ? 40 : 39);
        }
        Check.due("has(3) at the limit", x.has(3), 999);
        Check.due("has(7) at the limit", x.has(7), 40);
        Check.due("has(9) at the limit", x.has(9), 20);
    }

    // ---- promise 7

    /** "Letter k (0 .. 5) .. 0 behind it" */
    private static void letterBehindAName() {
        SilentReel x = Check.of("place a;place zzzzzz;person zy at a kind 1;person zzzzzy at a kind 1;");
        int[][] due = {{1, 0, 0, 0, 0, 0}, {26, 26, 26, 26, 26, 26}, {26, 25, 0, 0, 0, 0}, {26, 26, 26, 26, 26, 25}};
        for (int name = 0; name < 4; name++) {
            for (int k = 0; k < 6; k++) {
                Check.due("letter " + k + " of name " + name, x.letter(name / 2, name % 2, k), due[name][k]);
            }
            Check.due("letter 6 of name " + name, x.letter(name / 2, name % 2, 6), -1);
        }
    }

    /** "NONE when there is none such" */
    private static void letterOfNoneSuch() {
        none("letter(0, ..)", 3, 6, x -> (which, k) -> x.letter(0, which, k));
        none("letter(1, ..)", 2, 6, x -> (which, k) -> x.letter(1, which, k));
        none("letter(.., 0)", 2, 3, x -> (kind, which) -> x.letter(kind, which, 0));
        SilentReel x = Check.of("place a;place b;person p at a kind 1;");
        Check.due("letter(0, 1, 0): two places", x.letter(0, 1, 0), 2);
        Check.due("letter(0, 2, 0): no third", x.letter(0, 2, 0), -1);
        Check.due("letter(1, 0, 0): one person", x.letter(1, 0, 0), 16);
        Check.due("letter(1, 1, 0): no second", x.letter(1, 1, 0), -1);
        Check.due("letter(2, 0, 0)", x.letter(2, 0, 0), -1);
        Check.due("letter(-1, 0, 0)", x.letter(-1, 0, 0), -1);
    }

    // ---- promise 8

    /** "(0 from itself)" */
    private static void farFromItself() {
        SilentReel x = Check.of(Texts.SEVEN + "road a to b;");
        for (int place = 0; place < 7; place++) {
            Check.due("far(" + place + ", " + place + ")", x.far(place, place), 0);
        }
    }

    /** "NONE without a way" */
    private static void farWithoutAWay() {
        SilentReel x = Check.of(Texts.SEVEN + "road a to b;road b to c;road c to d;road d to e;road e to f;");
        for (int place = 0; place < 6; place++) {
            Check.due("far(0, " + place + ")", x.far(0, place), place);
            Check.due("far(" + place + ", 0)", x.far(place, 0), place);
            Check.due("far(" + place + ", 6)", x.far(place, 6), -1);
            Check.due("far(6, " + place + ")", x.far(6, place), -1);
        }
        SilentReel ring = Check.of(Texts.SEVEN + "road a to b;road b to c;road c to d;road d to e;road e to f;"
                + "road f to g;road g to a;");
        int[] due = {0, 1, 2, 3, 3, 2, 1};
        for (int place = 0; place < 7; place++) {
            Check.due("far(0, " + place + ") on a ring", ring.far(0, place), due[place]);
        }
    }

    /** "or when there are none such" */
    private static void farOfNoneSuch() {
        none("far", 3, 3, x -> x::far);
        SilentReel x = Check.of("place a;place b;road a to b;");
        Check.due("far(2, 2): not 0", x.far(2, 2), -1);
        Check.due("far(-1, -1): not 0", x.far(-1, -1), -1);
    }

    // ---- promises 9 and 10

    private static void personOfNoneSuch() {
        none("person", 2, 3, x -> x::person);
        SilentReel x = Check.of(Texts.SIX);
        Check.due("person(5, 2)", x.person(5, 2), 0);
        Check.due("person(5, 3)", x.person(5, 3), -1);
        Check.due("person(6, 2)", x.person(6, 2), -1);
    }

    private static void frameOfNoneSuch() {
        none("frame", 2, 5, x -> x::frame);
        SilentReel x = Check.of(Texts.EIGHT);
        Check.due("frame(7, 4)", x.frame(7, 4), 0);
        Check.due("frame(7, 5)", x.frame(7, 5), -1);
        Check.due("frame(8, 4)", x.frame(8, 4), -1);
        x.cut(3);
        Check.due("frame(6, 0) when one is cut", x.frame(6, 0), 8);
        Check.due("frame(7, 0) when one is cut", x.frame(7, 0), -1);
        x.days(1);
        Check.due("frame(0, 0) of an empty reel", x.frame(0, 0), -1);
    }

    /** "A FRAME is TRUE, if behind its STEP just so many are in its PLACE": one fewer and one more are not */
    private static void frameTrueOrNot() {
        SilentReel x = Check.of(TWO + "person p at a kind 1;person q at a kind 1;stays all;");
        for (int many = 0; many <= 6; many++) {
            x.show(many + 1, 0, many);
        }
        for (int many = 0; many <= 6; many++) {
            Check.due("frame(" + many + ", 3) of two", x.frame(many, 3), many == 2 ? 1 : 0);
        }
        Check.due("has(6)", x.has(6), 1);
        SilentReel late = Check.of(TWO + "person p at a kind 1;stays step<8;goes far;frame 7 b 1;frame 8 b 1;"
                + "frame 7 a 1;frame 8 a 1;");
        int[] due = {0, 1, 1, 0};
        for (int k = 0; k < 4; k++) {
            Check.due("frame(" + k + ", 3) behind its step", late.frame(k, 3), due[k]);
        }
    }

    /** "who is there behind that STEP, as bits": none of nobody, all of six */
    private static void frameOfNobody() {
        SilentReel x = Check.of(Texts.SIX + "place b;frame 8 a 6;frame 8 b 0;");
        Check.due("frame(0, 4) of six", x.frame(0, 4), 63);
        Check.due("frame(0, 3) of six", x.frame(0, 3), 1);
        Check.due("frame(1, 4) of nobody", x.frame(1, 4), 0);
        Check.due("frame(1, 3) of nobody", x.frame(1, 3), 1);
    }

    /** "who is there behind that STEP": neither ahead of it nor behind another */
    private static void frameBehindItsStep() {
        for (int step = 1; step <= 8; step++) {
            SilentReel x = Check.of(ROW + "person p at b kind 1;person q at c kind 2;stays kind=2;"
                    + "goes if(step=" + step + ",far*2,0-far);");
            for (int k = 0; k < 8; k++) {
                x.show(8 - k, 0, 2);
            }
            for (int k = 0; k < 8; k++) {
                Check.due("frame(" + k + ", 4) of one who comes at " + step, x.frame(k, 4), 8 - k == step ? 1 : 0);
            }
        }
    }

    // ---- promises 11 to 13

    /** "a STEP (0 .. 8; 0: now)" */
    private static void whereOfNoneSuch() {
        none("where", 2, 9, x -> x::where);
        SilentReel x = Check.of(TWO + "person p at a kind 1;goes far;");
        Check.due("where(0, 0): now", x.where(0, 0), 0);
        Check.due("where(0, 1)", x.where(0, 1), 1);
        Check.due("where(0, 8)", x.where(0, 8), 1);
        Check.due("where(0, 9)", x.where(0, 9), -1);
        Check.due("where(1, 0)", x.where(1, 0), -1);
    }

    /** "a STEP (0 .. 8)" */
    private static void whoOfNoneSuch() {
        none("who", 3, 9, x -> x::who);
        SilentReel x = Check.of(TWO + "person p at a kind 1;goes far;");
        Check.due("who(0, 0)", x.who(0, 0), 1);
        Check.due("who(1, 0)", x.who(1, 0), 0);
        Check.due("who(1, 8)", x.who(1, 8), 1);
        Check.due("who(1, 9)", x.who(1, 9), -1);
        Check.due("who(2, 0)", x.who(2, 0), -1);
    }

    /** "a DAY AGREES, if all its FRAMES are TRUE": without any it does, with one of eight that is not it does not */
    private static void agreesWithoutFrames() {
        Check.due("agrees() without frames", Check.of(Texts.SIX).agrees(), 1);
        for (int wrong = 0; wrong <= 8; wrong++) {
            SilentReel x = Check.of("place a;person p at a kind 1;");
            for (int step = 1; step <= 8; step++) {
                x.show(step, 0, step == wrong ? 2 : 1);
            }
            Check.due("agrees() with frame " + wrong + " wrong", x.agrees(), wrong == 0 ? 1 : 0);
            Check.due("has(6) with frame " + wrong + " wrong", x.has(6), wrong == 0 ? 8 : 7);
        }
    }

    // ---- promise 14

    /** "SELF of a STEP (1 .. 8), a PLACE .. NONE when there is none such" */
    private static void selfOfNoneSuch() {
        none("self", 9, 3, x -> x::self);
        SilentReel x = Check.of(TWO + "person p at a kind 1;stays all;");
        Check.due("self(0, 0): no step 0", x.self(0, 0), -1);
        Check.due("self(1, 0)", x.self(1, 0), 2);
        Check.due("self(8, 1)", x.self(8, 1), 1);
        Check.due("self(9, 1)", x.self(9, 1), -1);
        Check.due("self(8, 2)", x.self(8, 2), -1);
    }

    /** "SELF are numbers (0 .. 6)" */
    private static void selfFromNoughtToSix() {
        Check.due("self(1, 0) of nobody", Check.of("place a;").self(1, 0), 1);
        Check.due("self(8, 0) of six", Check.of(Texts.SIX).self(8, 0), 64);
        String six = Texts.SIX + "watch p;watch q;watch r;watch s;watch t;watch u;place b;road a to b;stays step>1;";
        Check.due("self(1, 0): none and six", Check.of(six + "goes if(shown=6 or shown=9,5,0-far);").self(1, 0), 65);
        Check.due("self(1, 1) by 6 alone", Check.of(six + "goes if(shown=6,5,0-far);").self(1, 1), 65);
        Check.due("self(1, 1) by 0 alone: none such", Check.of(six + "goes if(shown=0,5,0-far);").self(1, 1), 0);
        String kinds = "place a;place b;road a to b;person p at a kind 1;person q at a kind 2;person r at a kind 3;"
                + "person s at a kind 4;person t at a kind 5;person u at a kind 6;watch p;watch q;watch r;watch s;"
                + "watch t;watch u;stays step>1;goes if(shown<9 and not shown<kind,5,0-far);";
        Check.due("self(1, 1): all", Check.of(kinds).self(1, 1), 127);
    }

    /** "or behind all FRAMES, also a ninth" */
    private static void selfOfANinth() {
        SilentReel x = Check.of(Texts.EIGHT + "place b;road a to b;person p at a kind 1;watch p;stays step>1;"
                + "goes if(shown=1 and far=1,5,0-far);");
        Check.due("has(4)", x.has(4), 8);
        Shot.asked("self(1, 1) of a ninth", x, 3, y -> y.self(1, 1));
        Check.due("has(4) behind it", x.has(4), 8);
        Check.due("frame(8, 0) behind it", x.frame(8, 0), -1);
    }

    /** "in place of what is shown there" */
    private static void selfInPlaceOfWhatIsShown() {
        SilentReel x = Check.of(TWO + "person p at a kind 1;watch p;frame 1 b 5;stays step>1;"
                + "goes if(shown=1 or shown=5,5,0-far);");
        Check.due("where(0, 1) by 5", x.where(0, 1), 1);
        Shot.asked("self(1, 1)", x, 3, y -> y.self(1, 1));
        Check.due("frame(0, 2) behind it", x.frame(0, 2), 5);
    }

    /** "in place of what is shown there": what is shown behind it in the reel is shown as ever */
    private static void selfAmongOthers() {
        String text = TWO + "person p at a kind 1;watch p;stays step>1;goes if(shown=1,5,0-far);";
        SilentReel x = Check.of(text + "frame 2 b 0;frame 1 b 1;frame 3 a 1;");
        Check.due("where(0, 1) by a frame behind it", x.where(0, 1), 1);
        Check.due("self(2, 1)", x.self(2, 1), 2);
        Check.due("self(2, 0)", x.self(2, 0), 1);
        Check.due("self(1, 1)", x.self(1, 1), 3);
        Check.due("self(3, 0)", x.self(3, 0), 1);
    }

    // ---- promises 15 and 16

    /** "the fewest FRAMES to be cut, so that the DAY AGREES": none, one, all eight */
    private static void cutsOfNoneAndAll() {
        Check.due("cuts() without frames", Check.of("place a;").cuts(), 0);
        Check.due("cuts() of eight that are not true", Check.of(Texts.EIGHT).cuts(), 255);
        Check.due("cuts() of eight that are", Check.of(Texts.EIGHT + "person p at a kind 1;").cuts(), 0);
        for (int wrong = 1; wrong <= 8; wrong++) {
            SilentReel x = Check.of("place a;person p at a kind 1;");
            for (int step = 1; step <= 8; step++) {
                x.show(step, 0, step == wrong ? 0 : 1);
            }
            Check.due("cuts() of frame " + wrong, x.cuts(), 1 << wrong - 1);
            Check.due("has(4) behind it", x.has(4), 8);
        }
    }

    /** "of like ones the least bits"; fewer frames come first, though their bits be more */
    private static void cutsOfLikeOnes() {
        String two = "place a;place b;place c;road a to b;person p at a kind 1;watch p;"
                + "stays step>1;goes if(shown=1,5,0-far);";
        Check.due("cuts(): the first of two", Check.of(two + "frame 1 b 1;frame 2 b 0;").cuts(), 1);
        Check.due("cuts(): the first of two, told the other way", Check.of(two + "frame 2 b 0;frame 1 b 1;").cuts(), 1);
        Check.due("cuts(): the last one, not the two ahead of it",
                Check.of(two + "frame 2 b 0;frame 3 b 0;frame 1 b 1;").cuts(), 4);
        Check.due("cuts(): the eighth, not seven", Check.of(two + "frame 2 b 0;frame 3 b 0;frame 4 b 0;frame 5 b 0;"
                + "frame 6 b 0;frame 7 b 0;frame 8 b 0;frame 1 b 1;").cuts(), 128);
    }

    /** "NONE when by none it AGREES": none, all six, and what none can bring */
    private static void crowdOfNoneAndAll() {
        Check.due("crowd() without frames", Check.of(Texts.SIX).crowd(), 0);
        Check.due("crowd(): none can", Check.of(Texts.SIX + "frame 1 a 5;").crowd(), -1);
        String six = Texts.SIX + "place b;road a to b;stays step>1;goes if(shown<9,5,0)-far;";
        Check.due("crowd(): all six", Check.of(six + "frame 1 b 6;").crowd(), 63);
        Check.due("crowd(): nobody", Check.of(six + "watch p;frame 1 b 0;").crowd(), 0);
        Check.due("crowd() of nobody", Check.of("place a;frame 1 a 0;").crowd(), 0);
        Check.due("crowd() of nobody: none can", Check.of("place a;frame 1 a 1;").crowd(), -1);
        SilentReel x = Check.of(six + "watch p;watch q;frame 1 b 6;");
        Shot.asked("crowd()", x, 63, SilentReel::crowd);
        Check.due("has(5): who watches stays", x.has(5), 2);
    }

    /** "of like ones the least bits" */
    private static void crowdOfLikeOnes() {
        String six = Texts.SIX + "place b;road a to b;stays step>1;goes if(shown<9,5,0)-far;";
        for (int many = 0; many <= 6; many++) {
            Check.due("crowd() of " + many, Check.of(six + "frame 1 b " + many + ";").crowd(), (1 << many) - 1);
        }
        String last = Texts.SIX.replace("u at a kind 1", "u at a kind 2") + "place b;road a to b;"
                + "stays kind=1 or step>1;goes if(shown<9,5,0)-far;";
        Check.due("crowd(): the last one alone", Check.of(last + "frame 1 b 1;").crowd(), 32);
    }

    // ---- promise 17

    private static void emptyOfNoneAndAll() {
        Check.due("empty() of nobody", Check.of(Texts.SEVEN).empty(), 127);
        Check.due("empty() of no place", new SilentReel().empty(), 0);
        Check.due("empty(): none", Check.of(TWO + "person p at a kind 1;person q at b kind 1;stays all;").empty(), 0);
        SilentReel x = Check.of(Texts.SEVEN + "person p at g kind 1;");
        Check.due("empty(): all but the last", x.empty(), 63);
    }

    /** "PLACES in which nobody is behind any STEP of the DAY": a place that is left at step 1 is one */
    private static void emptyBehindAnyStep() {
        Check.due("empty(): b is left at once", Check.of(TWO + "person p at b kind 1;").empty(), 2);
        for (int step = 1; step <= 8; step++) {
            SilentReel x = Check.of(TWO + "person p at a kind 1;goes if(step=" + step + ",far,0-far);");
            Check.due("empty(): b at step " + step + " alone", x.empty(), 0);
            Check.due("who(1, " + step + ")", x.who(1, step), 1);
        }
        SilentReel whole = Check.of(TWO + "person p at a kind 1;stays step>1;goes far;");
        Check.due("empty(): a is left at once, b is not", whole.empty(), 1);
    }

    // ---- promise 18

    /** "Behind n DAYS AHEAD (0 .. 40)" */
    private static void laterOfNought() {
        SilentReel x = Check.of(TWO + "person p at a kind 1;goes far;");
        for (int n = 0; n <= 40; n++) {
            Check.due("later(0, " + n + ")", x.later(0, n), n % 2);
        }
        Check.due("later(0, 41)", x.later(0, 41), -1);
    }

    private static void laterOfForty() {
        SilentReel x = Check.of(TWO + "person p at a kind 1;stays not day=39 or step>1;goes far;");
        Check.due("later(0, 39)", x.later(0, 39), 0);
        Check.due("later(0, 40)", x.later(0, 40), 1);
        x.days(1);
        Check.due("later(0, 38) from day 1", x.later(0, 38), 0);
        Check.due("later(0, 39) from day 1", x.later(0, 39), 1);
        Check.due("later(0, 40) from day 1", x.later(0, 40), 1);
    }

    /** "NONE when there is none such, or n can't be" */
    private static void laterOfNoneSuch() {
        none("later", 2, 41, x -> x::later);
    }

    /** "not beyond DAY 999" */
    private static void laterBeyondTheLastDay() {
        String text = TWO + "person p at a kind 1;goes far;";
        for (int left : new int[] {0, 1, 2, 39}) {
            SilentReel x = nearTheEnd(text, left);
            int now = x.where(0, 0);
            Check.due("later(0, 0) with " + left + " left", x.later(0, 0), now);
            Check.due("later(0, " + left + ") with " + left + " left", x.later(0, left), left % 2 == 0 ? now : 1 - now);
            Check.due("later(0, " + (left + 1) + ") with " + left + " left", x.later(0, left + 1), -1);
            Check.due("has(3) stays", x.has(3), 999 - left);
        }
    }

    // ---- promise 19

    /** "In which DAY AHEAD (1 .. 40) two people are first in one PLACE behind a STEP" */
    private static void meetOfForty() {
        String two = TWO + "person p at a kind 1;person q at b kind 2;goes if(kind=1,far,0-far);stays day<";
        Check.due("meet(0, 1) in the first", Check.of(two + "0;").meet(0, 1), 1);
        Check.due("meet(0, 1) in the second", Check.of(two + "1;").meet(0, 1), 2);
        Check.due("meet(0, 1) in the 40th", Check.of(two + "39;").meet(0, 1), 40);
        Check.due("meet(0, 1) in the 41st", Check.of(two + "40;").meet(0, 1), -1);
        SilentReel x = Check.of(two + "40;");
        x.days(1);
        Check.due("meet(0, 1) in the 40th from day 1", x.meet(0, 1), 40);
        for (int step = 1; step <= 8; step++) {
            SilentReel y = Check.of(TWO + "person p at a kind 1;person q at b kind 2;"
                    + "stays kind=2;goes if(step=" + step + ",far,0-far);");
            Check.due("meet(0, 1) behind step " + step + " alone", y.meet(0, 1), 1);
        }
        SilentReel apart = Check.of(TWO + "person p at a kind 1;person q at a kind 2;stays kind=2;"
                + "goes if(day=0,far,0-far);");
        Check.due("meet(0, 1): now does not count", apart.meet(0, 1), -1);
    }

    /** "in one PLACE behind a STEP": not where the other one was behind another step */
    private static void meetBehindOneStep() {
        SilentReel x = Check.of(TWO + "person p at a kind 1;person q at b kind 2;person r at a kind 3;"
                + "goes if(step%2=1,far,0-far);");
        Check.due("where(0, 1)", x.where(0, 1), 1);
        Check.due("where(1, 1)", x.where(1, 1), 0);
        Check.due("meet(0, 1) of two who change places", x.meet(0, 1), -1);
        Check.due("meet(1, 0) of two who change places", x.meet(1, 0), -1);
        Check.due("meet(1, 2) of two who change places", x.meet(1, 2), -1);
        Check.due("meet(2, 1) of two who change places", x.meet(2, 1), -1);
        Check.due("meet(2, 0) of two who go together", x.meet(2, 0), 1);
    }

    /** "NONE when in none, there are none such, or they are one" */
    private static void meetOfNoneSuch() {
        none("meet", 2, 2, x -> x::meet);
        SilentReel x = Check.of(TWO + "person p at a kind 1;person q at a kind 1;stays all;");
        Check.due("meet(0, 1)", x.meet(0, 1), 1);
        Check.due("meet(1, 0)", x.meet(1, 0), 1);
        Check.due("meet(0, 0): one", x.meet(0, 0), -1);
        Check.due("meet(1, 1): one", x.meet(1, 1), -1);
        Check.due("meet(0, 2)", x.meet(0, 2), -1);
        Check.due("meet(2, 1)", x.meet(2, 1), -1);
        Check.due("meet(2, 2)", x.meet(2, 2), -1);
    }

    private static void meetBeyondTheLastDay() {
        String two = TWO + "person p at a kind 1;person q at b kind 2;goes if(kind=1,far,0-far);stays day<";
        Check.due("meet(0, 1) in the last day", nearTheEnd(two + "998;", 1).meet(0, 1), 1);
        Check.due("meet(0, 1) in the last of 39", nearTheEnd(two + "998;", 39).meet(0, 1), 39);
        Check.due("meet(0, 1) beyond it", nearTheEnd(two + "999;", 39).meet(0, 1), -1);
        Check.due("meet(0, 1) on day 999", nearTheEnd(two + "999;", 0).meet(0, 1), -1);
    }

    // ---- promise 20

    /** "behind how many DAYS AHEAD (1 at least)" */
    private static void roundOfOneAtLeast() {
        Check.due("round() of those who stay", Check.of(Texts.SIX).round(), 1);
        Check.due("round() of nobody", Check.of("place a;").round(), 1);
        Check.due("round() of one who comes back within the day", Check.of(TWO + "person p at a kind 1;"
                + "goes if(step%2=1,far,0-far);").round(), 1);
        Check.due("round() to and fro", Check.of(TWO + "person p at a kind 1;goes far;").round(), 2);
        Check.due("round() of all, not of one", Check.of(TWO + "person p at a kind 1;person q at b kind 2;"
                + "stays kind=2;goes far;").round(), 2);
    }

    /** "all people are first where they are now": the sixth too, though there are fewer places */
    private static void roundOfAll() {
        for (int goer = 0; goer < 6; goer++) {
            StringBuilder text = new StringBuilder(TWO + "stays kind=1;goes far;");
            for (int person = 0; person < 6; person++) {
                text.append("person p").append((char) ('a' + person)).append(" at a kind ")
                        .append(person == goer ? 2 : 1).append(';');
            }
            Check.due("round() when person " + goer + " goes", Check.of(text.toString()).round(), 2);
        }
        Check.due("round() of one in seven places", Check.of(Texts.SEVEN + "person p at g kind 1;").round(), 1);
    }

    /** "NONE when it is not so behind any of 40" */
    private static void roundOfForty() {
        String away = TWO + "person p at a kind 1;goes far;stays day>0 and day<";
        Check.due("round() behind 39", Check.of(away + "38;").round(), 39);
        Check.due("round() behind 40", Check.of(away + "39;").round(), 40);
        Check.due("round() behind 41", Check.of(away + "40;").round(), -1);
        Check.due("round() never", Check.of(TWO + "person p at b kind 1;").round(), -1);
    }

    private static void roundBeyondTheLastDay() {
        String text = TWO + "person p at a kind 1;goes far;stays day<";
        Check.due("round() with two left", nearTheEnd(text + "997;", 2).round(), 2);
        Check.due("round() with one left", nearTheEnd(text + "998;", 1).round(), -1);
        Check.due("round() with one left, who stays", nearTheEnd(text + "999;", 1).round(), 1);
        Check.due("round() with none left", nearTheEnd(text + "999;", 0).round(), -1);
        Check.due("round() with none left, of nobody", nearTheEnd(TWO, 0).round(), -1);
    }

    // ---- promise 21

    private static int[] rows(int count) {
        int[] bytes = new int[3 * count];
        for (int k = 0; k < count; k++) {
            bytes[3 * k] = k % 8 + 1;
            bytes[3 * k + 1] = 1;
            bytes[3 * k + 2] = 1;
        }
        return bytes;
    }

    /** "1 to 16 rows of three bytes: how many rows" */
    private static void seeOneToSixteen() {
        SilentReel x = Check.of(TWO + "person p at a kind 1;stays all;");
        for (int count : new int[] {1, 2, 15, 16}) {
            Check.put(x, rows(count));
            Check.due("see() of " + count, x.see(), count);
            Check.due("has(8) of " + count, x.has(8), count);
            Check.due("began(0, 0) of " + count, x.began(0, 0), 2);
            Check.due("end(1): the tape goes", x.end(1), false);
        }
        int[] last = rows(16);
        last[47] = 0;
        Check.put(x, last);
        Check.due("see() of 16, the last one against the others", x.see(), 16);
        Check.due("began(0, 0): the 16th counts", x.began(0, 0), 0);
    }

    /** "any number of people" */
    private static void seeAnyNumber() {
        SilentReel x = Check.of(TWO + "person p at a kind 1;stays all;");
        for (int many : new int[] {0, 1, 2, 6, 7, 9, 127, 128, 255}) {
            Check.put(x, 1, 0, many);
            Check.due("see() of " + many, x.see(), 1);
            Check.due("began(0, 0) of " + many, x.began(0, 0), many == 0 ? 2 : many == 1 ? 1 : 0);
        }
    }

    private static void notSeen(int... bytes) {
        String call = "see() of " + java.util.Arrays.toString(bytes);
        SilentReel x = Shot.rich();
        Check.put(x, bytes);
        Shot.refused(call, x, 5, -1, SilentReel::see);
        Check.due("end(1) behind " + call, x.end(1), false);
    }

    /** "NONE, refused (5), when it is none such (STEPS and PLACES that there are" */
    private static void seeRefused() {
        notSeen();
        notSeen(1);
        notSeen(1, 0);
        notSeen(1, 0, 1, 1);
        notSeen(1, 0, 1, 1, 0);
        notSeen(rows(17));
        notSeen(rows(18));
        notSeen(java.util.Arrays.copyOf(rows(17), 49));
        notSeen(java.util.Arrays.copyOf(rows(16), 47));
        notSeen(rows(500));
        notSeen(0, 0, 1);
        notSeen(9, 0, 1);
        notSeen(128, 0, 1);
        notSeen(255, 0, 1);
        notSeen(1, 3, 1);
        notSeen(1, 128, 1);
        notSeen(1, 255, 1);
        notSeen(1, 0, 1, 0, 0, 1);
        notSeen(1, 0, 1, 9, 0, 1);
        notSeen(1, 0, 1, 1, 3, 1);
        SilentReel x = Shot.rich();
        Check.put(x, 1, 0, 1, 8, 2, 1);
        Check.due("see() of the first and last step and place", x.see(), 2);
    }

    // ---- promise 22

    /** "NONE when there is none such, or for others" */
    private static void beganOfNoneSuch() {
        none("began", 2, 4, x -> x::began);
    }

    /** "of the latest see() of this TOWN that was not refused; all, if there was none" */
    private static void beganByTheLatest() {
        String text = ROW + "person p at a kind 1;stays all;";
        SilentReel x = Check.of(text);
        Check.due("began(0, 0) of all", x.began(0, 0), 7);
        Check.put(x, 9, 0, 0);
        x.see();
        Check.due("began(0, 0) behind one that was refused", x.began(0, 0), 7);
        Check.put(x, 1, 0, 0);
        x.see();
        Check.due("began(0, 0) behind the first", x.began(0, 0), 6);
        Check.put(x, 1, 1, 0);
        x.see();
        Check.due("began(0, 0) behind the second", x.began(0, 0), 5);
        Check.put(x, 1, 3, 0);
        x.see();
        Check.due("began(0, 0) behind one more that was refused", x.began(0, 0), 5);
        Check.due("has(8)", x.has(8), 1);
        Check.town(x, "x");
        Check.due("began(0, 0) behind a fault", x.began(0, 0), 5);
        Check.town(x, text);
        Check.due("began(0, 0) of a new town", x.began(0, 0), 7);
        Check.due("has(8) of a new town", x.has(8), 0);
        SilentReel seven = Check.of(Texts.SEVEN + "person p at a kind 1;stays all;");
        Check.due("began(0, 0) of seven", seven.began(0, 0), 127);
        Check.put(seven, 8, 6, 1);
        seven.see();
        Check.due("began(0, 0) of the seventh", seven.began(0, 0), 64);
    }

    /** "by which all is so": each row is of its own step and place */
    private static void beganByAllRows() {
        SilentReel x = Check.of(ROW + "person p at a kind 1;person q at c kind 2;stays kind=2;"
                + "goes if(step%2=1,far,0-far);");
        seen(x, 1, 1, 1, 1, 2, 0, 1);
        seen(x, 1, 2, 0, 1, 1, 1, 1);
        seen(x, 0, 1, 1, 1, 2, 1, 1);
        seen(x, 2, 1, 0, 1, 2, 1, 1);
        seen(x, 0, 1, 0, 1, 2, 0, 1);
        seen(x, 4, 1, 1, 1, 2, 2, 2, 8, 0, 0);
        seen(x, 0, 1, 1, 1, 2, 2, 2, 8, 0, 1);
        seen(x, 1, 1, 1, 1, 2, 2, 1, 8, 0, 1);
    }

    private static void seen(SilentReel x, int due, int... rows) {
        Check.put(x, rows);
        x.see();
        Check.due("began(0, 0) by " + java.util.Arrays.toString(rows), x.began(0, 0), due);
    }

    /** "TELLING .. NONE without any" */
    private static void beganInNone() {
        SilentReel x = Check.of(ROW + "person p at a kind 1;stays all;");
        Check.put(x, 1, 0, 2);
        x.see();
        int[] due = {0, -1, -1, -1};
        for (int what = 0; what <= 3; what++) {
            Check.due("began(0, " + what + ") without any", x.began(0, what), due[what]);
        }
        Check.put(x, 1, 2, 1);
        x.see();
        int[] one = {4, 1, 0, 1};
        for (int what = 0; what <= 3; what++) {
            Check.due("began(0, " + what + ") of one", x.began(0, what), one[what]);
        }
    }

    /** "of like ones the first (STEP by STEP, PLACE by PLACE)" */
    private static void tellingOfLikeOnes() {
        telling(Check.of("place a;person p at a kind 1;"), 1, 1, 0, 1);
        telling(Check.of(TWO + "person p at a kind 1;stays all;"), 3, 1, 0, 1);
        telling(Check.of(TWO + "person p at a kind 1;"), 3, 1, 0, 2);
        telling(Check.of(ROW + "person p at a kind 1;stays all;"), 7, 1, 0, 2);
        telling(Check.of(Texts.SEVEN + "person p at a kind 1;stays all;"), 127, 1, 0, 6);
        telling(Check.of(Texts.SIX + "place b;stays all;"), 3, 1, 0, 1);
        // from c he comes to b, and a step behind it to a: then nothing tells where he began
        telling(Check.of(ROW + "person p at a kind 1;"), 7, 1, 0, 2);
        // q, who goes where p is, tells it behind step 8 alone, in b
        telling(Check.of(ROW + "person p at a kind 1;person q at b kind 2;stays kind=1 or step<8;goes there;"),
                7, 8, 1, 1);
    }

    /** "TELLING is the STEP and the PLACE": two in one place draw p to it from the one next to it */
    private static void tellingInEachPlace() {
        for (int place = 1; place <= 6; place++) {
            String name = "abcdefg".substring(place, place + 1);
            String next = "abcdefg".substring(place - 1, place);
            String text = Texts.SEVEN + "road " + next + " to " + name + ";person p at a kind 1;person q at " + name
                    + " kind 2;person r at " + name + " kind 2;goes there;";
            telling(Check.of(text), 127, 1, place, 5);
            telling(Check.of(text + "stays step<8;"), 127, 8, place, 5);
        }
    }

    private static void telling(SilentReel x, int... due) {
        for (int what = 0; what <= 3; what++) {
            Check.due("began(0, " + what + ")", x.began(0, what), due[what]);
        }
    }

    /** No question is refused or counted, nor does it change what others answer. */
    private static void noQuestionLeavesATrace() {
        SilentReel x = Shot.rich();
        Shot.asked("all questions with arguments that can be", x, 0, y -> {
            for (int what = 0; what <= 10; what++) {
                y.has(what);
            }
            for (int k = 0; k <= 2; k++) {
                y.self(8 - k, k);
                y.later(k, 40);
                y.meet(k, 1);
                y.began(k, 3);
            }
            y.cuts();
            y.crowd();
            y.round();
            return 0;
        });
    }
}
