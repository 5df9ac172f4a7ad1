import java.util.ArrayList;
import java.util.List;

/** What an object answers to questions that change nothing: two shots differ if a call between them left a trace. */
final class Shot {
    /** A call that is looked at; a boolean counts 1 or 0. */
    interface Call {
        int on(SilentReel x);
    }

    static final int[] ENDS = {Integer.MIN_VALUE, Integer.MIN_VALUE + 1, -256, -2, -1, 255, 256, 1 << 30,
        Integer.MAX_VALUE - 1, Integer.MAX_VALUE};

    private final List<String> names = new ArrayList<>();
    private final List<Integer> answers = new ArrayList<>();

    private Shot() {
    }

    /** Some 170 calls at the most, so that two shots and what is between them stay within the 512. */
    static Shot of(SilentReel x) {
        Shot shot = new Shot();
        shot.ofTown(x);
        shot.ofDay(x);
        shot.ofPast(x);
        for (int what = 0; what <= 5; what++) {
            shot.add("status(" + what + ")", x.status(what));
        }
        return shot;
    }

    private void add(String name, int answer) {
        names.add(name);
        answers.add(answer);
    }

    private void ofTown(SilentReel x) {
        add("fault(0)", x.fault(0));
        add("fault(1)", x.fault(1));
        for (int what = 0; what <= 10; what++) {
            add("has(" + what + ")", x.has(what));
        }
        for (int place = 0; place < x.has(0); place++) {
            add("letter(0, " + place + ", 0)", x.letter(0, place, 0));
            add("far(0, " + place + ")", x.far(0, place));
            add("who(" + place + ", 4)", x.who(place, 4));
        }
        for (int person = 0; person < x.has(2); person++) {
            add("letter(1, " + person + ", 0)", x.letter(1, person, 0));
            for (int what = 0; what <= 2; what++) {
                add("person(" + person + ", " + what + ")", x.person(person, what));
            }
        }
    }

    private void ofDay(SilentReel x) {
        for (int k = 0; k < x.has(4); k++) {
            for (int what = 0; what <= 4; what++) {
                add("frame(" + k + ", " + what + ")", x.frame(k, what));
            }
        }
        for (int person = 0; person < x.has(2); person++) {
            add("where(" + person + ", 1)", x.where(person, 1));
            add("where(" + person + ", 8)", x.where(person, 8));
            add("later(" + person + ", 2)", x.later(person, 2));
            add("began(" + person + ", 0)", x.began(person, 0));
            add("began(" + person + ", 1)", x.began(person, 1));
        }
        add("agrees()", x.agrees());
        add("self(1, 0)", x.self(1, 0));
        add("cuts()", x.cuts());
        add("crowd()", x.crowd());
        add("empty()", x.empty());
        add("meet(0, 1)", x.meet(0, 1));
        add("round()", x.round());
    }

    private void ofPast(SilentReel x) {
        int last = x.has(7) - 1;
        for (int what = 0; what <= 2; what++) {
            add("kept(0, " + what + ")", x.kept(0, what));
            add("kept(" + last + ", " + what + ")", x.kept(last, what));
        }
        for (int k = 0; k < 40 && x.octet(k) >= 0; k++) {
            add("octet(" + k + ")", x.octet(k));
        }
    }

    private void dueAgain(String call, Shot then) {
        Check.due(call + ": how many can be asked behind it", then.names.size(), names.size());
        for (int k = 0; k < Math.min(names.size(), then.names.size()); k++) {
            Check.due(names.get(k) + " behind " + call, then.answers.get(k), answers.get(k));
        }
    }

    private void count(int what) {
        int k = names.indexOf("status(" + what + ")");
        answers.set(k, answers.get(k) + 1);
    }

    /** A call that answers so and leaves no trace, no refusal either. */
    static void asked(String call, SilentReel x, int answer, Call made) {
        Shot ahead = of(x);
        Check.due(call, made.on(x), answer);
        ahead.dueAgain(call, of(x));
    }

    /** A call that is refused: it answers so, all stays, status(what) alone is one more. */
    static void refused(String call, SilentReel x, int what, int answer, Call made) {
        Shot ahead = of(x);
        Check.due(call, made.on(x), answer);
        ahead.count(what);
        ahead.dueAgain(call, of(x));
    }

    /** The same of a call that has nothing to do with the tape: what is on it stays there. */
    static void refusedByTape(String call, SilentReel x, int what, int answer, Call made) {
        Check.put(x, 8, 0, 0, 1, 0, 1);
        refused(call, x, what, answer, made);
        Check.due("end(7) behind " + call, x.end(7), false);
        Check.due("see() of the tape behind " + call, x.see(), 2);
    }

    /** A town with something of all that can be changed: rows kept and seen, acts, an image, refusals. */
    static SilentReel rich() {
        SilentReel x = Check.of("place a;place b;place c;road a to b;road b to c;person p at a kind 1;"
                + "person q at c kind 2;watch q;frame 1 b 2;frame 8 c 1;rain 30;stays step%2=0 and kind=2;"
                + "goes if(shown=9,far,shown)-there;");
        x.seed(77);
        x.days(2);
        x.show(1, 0, 1);
        x.show(2, 1, 2);
        x.show(5, 2, 0);
        x.watch(0, 1);
        x.cut(1);
        x.send(1, 0);
        Check.put(x, 3, 0, 1);
        x.see();
        x.image();
        x.end(1);
        x.days(0);
        x.cut(9);
        x.seed(-1);
        return x;
    }
}
