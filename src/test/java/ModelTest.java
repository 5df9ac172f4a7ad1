import java.nio.charset.StandardCharsets;
import java.util.ArrayDeque;
import java.util.ArrayList;
import java.util.Arrays;
import java.util.Deque;
import java.util.HashMap;
import java.util.LinkedHashMap;
import java.util.List;
import java.util.Map;
import java.util.Random;
import java.util.function.ToIntFunction;

/**
 * Runs of calls drawn by a fixed seed, answered also by a plain model of the document that shares no code with the
 * class: towns, towns with a byte or a word wrong, and all calls with arguments in and out of their bounds.
 */
public final class ModelTest {
    private static final int RUNS = 700;
    private static final int CALLS = 440;
    private static final int TEXTS = 12000;

    public static void main(String[] args) {
        Random random = new Random(20261118);
        for (int run = 0; run < RUNS && Check.wrong() < 20; run++) {
            new Run(random, run).go();
        }
        for (int text = 0; text < TEXTS && Check.wrong() < 20; text++) {
            new Run(random, RUNS + text).readWrong();
        }
        Check.finish();
    }

    // ---- the model

    private static final class Fault extends RuntimeException {
        private static final long serialVersionUID = 1L;
        final int number;
        final int at;

        Fault(int number, int at) {
            this.number = number;
            this.at = at;
        }
    }

    private record Token(char sort, String text, int at) {
    }

    private record Moment(int kind, int step, int day, int here, int shown, int there, int far) {
    }

    private record Frame(int step, int place, int many) {
    }

    private static final class ModelTown {
        final List<String> places = new ArrayList<>();
        final List<String> people = new ArrayList<>();
        final List<int[]> roads = new ArrayList<>();
        final List<Integer> homes = new ArrayList<>();
        final List<Integer> kinds = new ArrayList<>();
        final List<Integer> watchers = new ArrayList<>();
        final List<Frame> frames = new ArrayList<>();
        ToIntFunction<Moment> stays;
        ToIntFunction<Moment> goes;
        int rain;
        int statements;

        boolean joined(int a, int b) {
            for (int[] road : roads) {
                if (road[0] == a && road[1] == b || road[0] == b && road[1] == a) {
                    return true;
                }
            }
            return false;
        }

        int far(int from, int to) {
            int[] far = new int[places.size()];
            Arrays.fill(far, -1);
            far[from] = 0;
            Deque<Integer> next = new ArrayDeque<>(List.of(from));
            while (!next.isEmpty()) {
                int place = next.remove();
                for (int other = 0; other < far.length; other++) {
                    if (far[other] < 0 && joined(place, other)) {
                        far[other] = far[place] + 1;
                        next.add(other);
                    }
                }
            }
            return far[to];
        }
    }

    private static final class Parser {
        private static final List<String> OWN = List.of(("place road to person at kind watch frame stays goes rain "
                + "step day here shown there far if or and not all min max").split(" "));
        private final List<Token> tokens = new ArrayList<>();
        private final ModelTown town = new ModelTown();
        private int k;
        private boolean inGoes;

        Parser(String text) {
            int at = 0;
            int behind = -1;
            while (at < text.length()) {
                char sign = text.charAt(at);
                if (sign == ' ' || sign == '\n') {
                    at++;
                    continue;
                }
                int to = at;
                char sort = letter(sign) ? 'w' : digit(sign) ? 'n' : 's';
                int most = sort == 'w' ? 6 : 4;
                while (to < text.length() && (sort == 'w' && letter(text.charAt(to))
                        || sort == 'n' && digit(text.charAt(to)))) {
                    to++;
                }
                if (sort == 's') {
                    to = at + 1;
                } else if (at == behind) {
                    sort = '!';
                    tokens.add(new Token(sort, "", at));
                    return;
                } else if (to - at > most) {
                    tokens.add(new Token('!', "", at + most));
                    tokens.add(new Token('^', "", at));
                    return;
                }
                tokens.add(new Token(sort, text.substring(at, to), at));
                behind = sort == 's' ? -1 : to;
                at = to;
            }
            tokens.add(new Token('.', "", text.length()));
        }

        static boolean letter(char sign) {
            return sign >= 'a' && sign <= 'z';
        }

        static boolean digit(char sign) {
            return sign >= '0' && sign <= '9';
        }

        Token now() {
            return tokens.get(k);
        }

        boolean is(String text) {
            return now().sort != '!' && now().text.equals(text);
        }

        Fault misplaced() {
            return new Fault(1, now().at);
        }

        void take(String text) {
            if (!is(text)) {
                throw misplaced();
            }
            k++;
        }

        ModelTown read() {
            while (now().sort != '.') {
                if (town.statements == 80) {
                    throw new Fault(6, tokens.get(tokens.size() - 1).sort == '^' && now().sort == '!'
                            ? tokens.get(tokens.size() - 1).at : now().at);
                }
                statement();
                take(";");
                town.statements++;
            }
            return town;
        }

        void limit(int count, int most) {
            if (count == most) {
                throw new Fault(6, now().at);
            }
            k++;
        }

        void statement() {
            if (is("place")) {
                limit(town.places.size(), 7);
                town.places.add(given());
            } else if (is("road")) {
                limit(town.roads.size(), 12);
                int from = asked(town.places);
                take("to");
                int at = now().at;
                int to = asked(town.places);
                if (from == to || town.joined(from, to)) {
                    throw new Fault(3, at);
                }
                town.roads.add(new int[] {from, to});
            } else if (is("person")) {
                limit(town.people.size(), 6);
                String name = given();
                take("at");
                int home = asked(town.places);
                take("kind");
                town.kinds.add(number(0, 9));
                town.homes.add(home);
                town.people.add(name);
            } else if (is("watch")) {
                k++;
                int at = now().at;
                int person = asked(town.people);
                if (town.watchers.contains(person)) {
                    throw new Fault(3, at);
                }
                town.watchers.add(person);
            } else if (is("frame")) {
                limit(town.frames.size(), 8);
                int step = number(1, 8);
                int at = now().at;
                int place = asked(town.places);
                for (Frame frame : town.frames) {
                    if (frame.step == step && frame.place == place) {
                        throw new Fault(3, at);
                    }
                }
                town.frames.add(new Frame(step, place, number(0, 6)));
            } else if (is("stays")) {
                limit(town.stays == null ? 0 : 1, 1);
                inGoes = false;
                town.stays = test(0);
            } else if (is("goes")) {
                limit(town.goes == null ? 0 : 1, 1);
                inGoes = true;
                town.goes = sum(0);
            } else if (is("rain")) {
                k++;
                town.rain = number(0, 100);
            } else {
                throw misplaced();
            }
        }

        String name() {
            if (now().sort != 'w' || OWN.contains(now().text)) {
                throw misplaced();
            }
            return now().text;
        }

        String given() {
            String name = name();
            if (town.places.contains(name) || town.people.contains(name)) {
                throw new Fault(2, now().at);
            }
            k++;
            return name;
        }

        int asked(List<String> names) {
            int which = names.indexOf(name());
            if (which < 0) {
                throw new Fault(3, now().at);
            }
            k++;
            return which;
        }

        int number(int least, int most) {
            if (now().sort != 'n') {
                throw misplaced();
            }
            int number = Integer.parseInt(now().text);
            if (number < least || number > most) {
                throw new Fault(4, now().at);
            }
            k++;
            return number;
        }

        int open(int open) {
            if (open == 7) {
                throw new Fault(5, now().at);
            }
            k++;
            return open + 1;
        }

        ToIntFunction<Moment> test(int open) {
            ToIntFunction<Moment> left = both(open);
            while (is("or")) {
                k++;
                ToIntFunction<Moment> a = left;
                ToIntFunction<Moment> b = both(open);
                left = m -> a.applyAsInt(m) + b.applyAsInt(m) > 0 ? 1 : 0;
            }
            return left;
        }

        ToIntFunction<Moment> both(int open) {
            ToIntFunction<Moment> left = fact(open);
            while (is("and")) {
                k++;
                ToIntFunction<Moment> a = left;
                ToIntFunction<Moment> b = fact(open);
                left = m -> a.applyAsInt(m) * b.applyAsInt(m);
            }
            return left;
        }

        ToIntFunction<Moment> fact(int open) {
            if (is("not")) {
                ToIntFunction<Moment> a = fact(open(open));
                return m -> a.applyAsInt(m) == 0 ? 1 : 0;
            }
            if (is("[")) {
                ToIntFunction<Moment> a = test(open(open));
                take("]");
                return a;
            }
            if (is("all")) {
                k++;
                return m -> 1;
            }
            ToIntFunction<Moment> a = sum(open);
            if (!is("<") && !is(">") && !is("=")) {
                throw misplaced();
            }
            char sign = now().text.charAt(0);
            k++;
            ToIntFunction<Moment> b = sum(open);
            return m -> {
                int order = Integer.compare(a.applyAsInt(m), b.applyAsInt(m));
                return order == "<=>".indexOf(sign) - 1 ? 1 : 0;
            };
        }

        ToIntFunction<Moment> sum(int open) {
            ToIntFunction<Moment> left = product(open);
            while (is("+") || is("-")) {
                left = joint(left, () -> product(open));
            }
            return left;
        }

        ToIntFunction<Moment> product(int open) {
            ToIntFunction<Moment> left = part(open);
            while (is("*") || is("/") || is("%")) {
                left = joint(left, () -> part(open));
            }
            return left;
        }

        private ToIntFunction<Moment> joint(ToIntFunction<Moment> a,
                java.util.function.Supplier<ToIntFunction<Moment>> next) {
            char sign = now().text.charAt(0);
            k++;
            ToIntFunction<Moment> b = next.get();
            return m -> result(sign, a.applyAsInt(m), b.applyAsInt(m));
        }

        static int result(char sign, long a, long b) {
            long quotient = b == 0 ? 0 : (long) Math.floor((double) a / b);
            long value = switch (sign) {
                case '+' -> a + b;
                case '-' -> a - b;
                case '*' -> a * b;
                case '/' -> quotient;
                default -> b == 0 ? 0 : a - b * quotient;
            };
            return (int) (value > 1000000 ? 1000000 : value < -1000000 ? -1000000 : value);
        }

        ToIntFunction<Moment> part(int open) {
            Token token = now();
            if (token.sort == 'n') {
                int number = number(0, 9999);
                return m -> number;
            }
            if (is("(")) {
                ToIntFunction<Moment> a = sum(open(open));
                take(")");
                return a;
            }
            if (is("if")) {
                k++;
                bracket(open);
                ToIntFunction<Moment> test = test(open + 1);
                take(",");
                ToIntFunction<Moment> a = sum(open + 1);
                take(",");
                ToIntFunction<Moment> b = sum(open + 1);
                take(")");
                return m -> test.applyAsInt(m) == 1 ? a.applyAsInt(m) : b.applyAsInt(m);
            }
            if (is("min") || is("max")) {
                boolean least = is("min");
                k++;
                bracket(open);
                ToIntFunction<Moment> a = sum(open + 1);
                take(",");
                ToIntFunction<Moment> b = sum(open + 1);
                take(")");
                return m -> a.applyAsInt(m) < b.applyAsInt(m) == least ? a.applyAsInt(m) : b.applyAsInt(m);
            }
            Map<String, ToIntFunction<Moment>> known = new HashMap<>(Map.of("kind", Moment::kind, "step",
                    Moment::step, "day", Moment::day, "here", Moment::here, "shown", Moment::shown));
            if (inGoes) {
                known.put("there", Moment::there);
                known.put("far", Moment::far);
            }
            if (token.sort != 'w' || !known.containsKey(token.text)) {
                throw misplaced();
            }
            k++;
            return known.get(token.text);
        }

        void bracket(int open) {
            if (!is("(")) {
                throw misplaced();
            }
            open(open);
        }
    }

    private record State(int day, List<Integer> spots, List<Integer> watchers, List<Frame> reel, List<int[]> kept) {
        State with(List<Integer> otherSpots) {
            return new State(day, otherSpots, watchers, reel, kept);
        }

        State watchedBy(List<Integer> others) {
            return new State(day, spots, others, reel, kept);
        }

        State showing(List<Frame> other) {
            return new State(day, spots, watchers, other, kept);
        }
    }

    private static final class Model {
        private ModelTown town = new ModelTown();
        private State now = new State(0, List.of(), List.of(), List.of(), List.of());
        private final List<State> past = new ArrayList<>();
        private final int[] refused = new int[6];
        private byte[] tape = new byte[0];
        private List<int[]> seen = List.of();
        private int fault;
        private int faultAt = -1;
        private long seed = 1;
        private int[] image = new int[0];

        int refuse(int what, int answer) {
            refused[what]++;
            return answer;
        }

        int ask(String call, int[] a) {
            return switch (call) {
                case "feed" -> feed(a);
                case "end" -> end(a[0]);
                case "town" -> town();
                case "fault" -> a[0] == 0 ? fault : a[0] == 1 ? faultAt : -1;
                case "has" -> has(a[0]);
                case "letter" -> letter(a[0], a[1], a[2]);
                case "far" -> place(a[0]) && place(a[1]) ? town.far(a[0], a[1]) : -1;
                case "person" -> person(a[0], a[1]);
                case "frame" -> frame(a[0], a[1]);
                case "where" -> person(a[0]) && a[1] >= 0 && a[1] <= 8 ? day(now).get(a[1]).get(a[0]) : -1;
                case "who" -> place(a[0]) && a[1] >= 0 && a[1] <= 8 ? bits(day(now).get(a[1]), a[0]) : -1;
                case "agrees" -> agrees(now) ? 1 : 0;
                case "self" -> self(a[0], a[1]);
                case "cuts" -> cuts();
                case "crowd" -> crowd();
                case "empty" -> empty();
                case "later" -> person(a[0]) && a[1] >= 0 && a[1] <= 40 && now.day + a[1] <= 999
                        ? ahead(a[1]).spots.get(a[0]) : -1;
                case "meet" -> meet(a[0], a[1]);
                case "round" -> round();
                case "see" -> see();
                case "began" -> began(a[0], a[1]);
                case "days" -> days(a[0], false);
                case "chance" -> days(a[0], true);
                case "show" -> show(a[0], a[1], a[2]);
                case "cut" -> cut(a[0]);
                case "watch" -> watch(a[0], a[1]);
                case "send" -> send(a[0], a[1]);
                case "undo" -> undo();
                case "seed" -> seed(a[0]);
                case "kept" -> kept(a[0], a[1]);
                case "image" -> image();
                case "octet" -> a[0] >= 0 && a[0] < image.length ? image[a[0]] : -1;
                case "on" -> on();
                default -> a[0] >= 0 && a[0] < 6 ? refused[a[0]] : -1;
            };
        }

        boolean place(int place) {
            return place >= 0 && place < town.places.size();
        }

        boolean person(int person) {
            return person >= 0 && person < town.people.size();
        }

        int feed(int[] numbers) {
            if (tape.length > 1580) {
                return refuse(0, -1);
            }
            int length = tape.length;
            tape = Arrays.copyOf(tape, length + 20);
            java.nio.ByteBuffer.wrap(tape, length, 20).asIntBuffer().put(numbers);
            return tape.length;
        }

        int end(int n) {
            if (n < 0 || n > tape.length) {
                return refuse(0, 0);
            }
            tape = Arrays.copyOf(tape, n);
            return 1;
        }

        int[] taken() {
            int[] bytes = new int[tape.length];
            for (int k = 0; k < bytes.length; k++) {
                bytes[k] = tape[k] & 255;
            }
            tape = new byte[0];
            return bytes;
        }

        int town() {
            String text = new String(tape, StandardCharsets.ISO_8859_1);
            tape = new byte[0];
            fault = 0;
            faultAt = -1;
            try {
                town = new Parser(text).read();
            } catch (Fault found) {
                fault = found.number;
                faultAt = found.at;
                return refuse(1, -1);
            }
            now = new State(0, town.homes, town.watchers, town.frames, List.of());
            past.clear();
            seen = List.of();
            return town.statements;
        }

        int has(int what) {
            int trueOnes = what == 6 ? trues(now, day(now)) : 0;
            int[] all = {town.places.size(), town.roads.size(), town.people.size(), now.day, now.reel.size(),
                now.watchers.size(), trueOnes, Math.min(40, now.kept.size()), seen.size(), past.size(), (int) seed};
            return what >= 0 && what < all.length ? all[what] : -1;
        }

        int letter(int kind, int which, int k) {
            if (kind < 0 || kind > 1 || k < 0 || k > 5 || !(kind == 0 ? place(which) : person(which))) {
                return -1;
            }
            String name = (kind == 0 ? town.places : town.people).get(which);
            return k < name.length() ? name.charAt(k) - 'a' + 1 : 0;
        }

        int person(int person, int what) {
            if (!person(person) || what < 0 || what > 2) {
                return -1;
            }
            return what == 0 ? now.spots.get(person) : what == 1 ? town.kinds.get(person)
                    : now.watchers.contains(person) ? 1 : 0;
        }

        int frame(int k, int what) {
            if (k < 0 || k >= now.reel.size() || what < 0 || what > 4) {
                return -1;
            }
            Frame frame = now.reel.get(k);
            int who = bits(day(now).get(frame.step), frame.place);
            return new int[] {frame.step, frame.place, frame.many, Integer.bitCount(who) == frame.many ? 1 : 0,
                who}[what];
        }

        static int bits(List<Integer> spots, int place) {
            int bits = 0;
            for (int person = 0; person < spots.size(); person++) {
                bits |= spots.get(person) == place ? 1 << person : 0;
            }
            return bits;
        }

        static int count(List<Integer> spots, int place) {
            return Integer.bitCount(bits(spots, place));
        }

        List<List<Integer>> day(State state) {
            List<List<Integer>> rows = new ArrayList<>();
            rows.add(state.spots);
            for (int step = 1; step <= 8; step++) {
                List<Integer> ahead = rows.get(step - 1);
                List<Integer> behind = new ArrayList<>();
                for (int person = 0; person < ahead.size(); person++) {
                    behind.add(goal(state, person, step, ahead));
                }
                rows.add(behind);
            }
            return rows;
        }

        int goal(State state, int person, int step, List<Integer> ahead) {
            int own = ahead.get(person);
            if (town.stays != null && town.stays.applyAsInt(moment(state, person, step, ahead, own)) == 1) {
                return own;
            }
            Map<Integer, Integer> sums = new LinkedHashMap<>();
            for (int place = 0; place < town.places.size(); place++) {
                if (place == own || town.joined(own, place)) {
                    sums.put(place, town.goes == null ? 0
                            : town.goes.applyAsInt(moment(state, person, step, ahead, place)));
                }
            }
            int most = java.util.Collections.max(sums.values());
            return sums.keySet().stream().filter(place -> sums.get(place) == most).findFirst().orElseThrow();
        }

        Moment moment(State state, int person, int step, List<Integer> ahead, int place) {
            int shown = 9;
            for (Frame frame : state.reel) {
                if (state.watchers.contains(person) && frame.step == step && frame.place == place) {
                    shown = frame.many;
                }
            }
            int far = town.far(state.spots.get(person), place);
            return new Moment(town.kinds.get(person), step, state.day, count(ahead, ahead.get(person)), shown,
                    count(ahead, place), far < 0 ? 9 : far);
        }

        static int trues(State state, List<List<Integer>> rows) {
            int trues = 0;
            for (Frame frame : state.reel) {
                trues += count(rows.get(frame.step), frame.place) == frame.many ? 1 : 0;
            }
            return trues;
        }

        boolean agrees(State state) {
            return trues(state, day(state)) == state.reel.size();
        }

        int self(int step, int place) {
            if (step < 1 || step > 8 || !place(place)) {
                return -1;
            }
            int bits = 0;
            for (int many = 0; many <= 6; many++) {
                List<Frame> reel = new ArrayList<>(now.reel);
                reel.removeIf(frame -> frame.step == step && frame.place == place);
                reel.add(new Frame(step, place, many));
                bits |= count(day(now.showing(reel)).get(step), place) == many ? 1 << many : 0;
            }
            return bits;
        }

        int cuts() {
            int best = (1 << now.reel.size()) - 1;
            for (int bits = best; bits >= 0; bits--) {
                if (Integer.bitCount(bits) > Integer.bitCount(best)) {
                    continue;
                }
                List<Frame> reel = new ArrayList<>();
                for (int k = 0; k < now.reel.size(); k++) {
                    if ((bits & 1 << k) == 0) {
                        reel.add(now.reel.get(k));
                    }
                }
                best = agrees(now.showing(reel)) ? bits : best;
            }
            return best;
        }

        int crowd() {
            int best = -1;
            for (int bits = (1 << town.people.size()) - 1; bits >= 0; bits--) {
                if (best >= 0 && Integer.bitCount(bits) > Integer.bitCount(best)) {
                    continue;
                }
                List<Integer> watchers = new ArrayList<>();
                for (int person = 0; person < town.people.size(); person++) {
                    if ((bits & 1 << person) != 0) {
                        watchers.add(person);
                    }
                }
                best = agrees(now.watchedBy(watchers)) ? bits : best;
            }
            return best;
        }

        int empty() {
            int bits = 0;
            List<List<Integer>> rows = day(now);
            for (int place = 0; place < town.places.size(); place++) {
                int where = place;
                bits |= rows.subList(1, 9).stream().anyMatch(row -> row.contains(where)) ? 0 : 1 << place;
            }
            return bits;
        }

        State behind(State state) {
            return new State(state.day + 1, day(state).get(8), state.watchers, List.of(), state.kept);
        }

        State ahead(int n) {
            State state = now;
            for (int k = 0; k < n; k++) {
                state = behind(state);
            }
            return state;
        }

        int meet(int one, int other) {
            if (!person(one) || !person(other) || one == other) {
                return -1;
            }
            State state = now;
            for (int k = 1; k <= 40 && now.day + k <= 999; k++) {
                for (List<Integer> row : day(state).subList(1, 9)) {
                    if (row.get(one).equals(row.get(other))) {
                        return k;
                    }
                }
                state = behind(state);
            }
            return -1;
        }

        int round() {
            State state = now;
            for (int k = 1; k <= 40 && now.day + k <= 999; k++) {
                state = behind(state);
                if (state.spots.equals(now.spots)) {
                    return k;
                }
            }
            return -1;
        }

        int see() {
            int[] bytes = taken();
            boolean good = bytes.length % 3 == 0 && bytes.length >= 3 && bytes.length <= 48;
            List<int[]> rows = new ArrayList<>();
            for (int k = 0; good && k < bytes.length; k += 3) {
                good = bytes[k] >= 1 && bytes[k] <= 8 && place(bytes[k + 1]);
                rows.add(Arrays.copyOfRange(bytes, k, k + 3));
            }
            if (!good) {
                return refuse(5, -1);
            }
            seen = rows;
            return rows.size();
        }

        int began(int person, int what) {
            if (!person(person) || what < 0 || what > 3) {
                return -1;
            }
            int bits = 0;
            List<List<List<Integer>>> left = new ArrayList<>();
            for (int place = 0; place < town.places.size(); place++) {
                List<Integer> spots = new ArrayList<>(now.spots);
                spots.set(person, place);
                List<List<Integer>> rows = day(now.with(spots));
                if (seen.stream().allMatch(row -> count(rows.get(row[0]), row[1]) == row[2])) {
                    bits |= 1 << place;
                    left.add(rows);
                }
            }
            if (what == 0) {
                return bits;
            }
            int[] telling = {-1, -1, -1, Integer.MAX_VALUE};
            for (int step = 1; step <= 8; step++) {
                for (int place = 0; place < town.places.size(); place++) {
                    Map<Integer, Integer> groups = new HashMap<>();
                    for (List<List<Integer>> rows : left) {
                        groups.merge(count(rows.get(step), place), 1, Integer::sum);
                    }
                    int most = groups.values().stream().mapToInt(size -> size).max().orElse(Integer.MAX_VALUE);
                    if (most < telling[3]) {
                        telling = new int[] {-1, step, place, most};
                    }
                }
            }
            return left.isEmpty() ? -1 : telling[what];
        }

        void act(State next) {
            past.add(now);
            if (past.size() > 20) {
                past.remove(0);
            }
            now = next;
        }

        int draw(int m) {
            seed = Math.floorMod(1103515245L * seed + 12345L, 1L << 31);
            return (int) (seed / 64 % m);
        }

        int days(int n, boolean bySeed) {
            if (n < 1 || n > 40 || now.day + n > 999) {
                return refuse(2, -1);
            }
            act(now);
            int agreeing = 0;
            int cut = 0;
            for (int k = 0; k < n; k++) {
                if (bySeed && draw(100) < town.rain && !now.reel.isEmpty()) {
                    List<Frame> reel = new ArrayList<>(now.reel);
                    reel.remove(draw(reel.size()));
                    now = now.showing(reel);
                    cut++;
                }
                int trues = trues(now, day(now));
                agreeing += trues == now.reel.size() ? 1 : 0;
                List<int[]> kept = new ArrayList<>(now.kept);
                kept.add(new int[] {now.day, now.reel.size(), trues});
                now = new State(now.day + 1, day(now).get(8), now.watchers, List.of(), kept);
            }
            return bySeed ? cut : agreeing;
        }

        int show(int step, int place, int many) {
            boolean there = now.reel.stream().anyMatch(frame -> frame.step == step && frame.place == place);
            if (there || now.reel.size() == 8 || step < 1 || step > 8 || !place(place) || many < 0 || many > 6) {
                return refuse(3, 0);
            }
            List<Frame> reel = new ArrayList<>(now.reel);
            reel.add(new Frame(step, place, many));
            act(now.showing(reel));
            return 1;
        }

        int cut(int k) {
            if (k < 0 || k >= now.reel.size()) {
                return refuse(3, 0);
            }
            List<Frame> reel = new ArrayList<>(now.reel);
            reel.remove(k);
            act(now.showing(reel));
            return 1;
        }

        int watch(int person, int on) {
            if (!person(person) || on != 0 && on != 1 || now.watchers.contains(person) == (on == 1)) {
                return refuse(3, 0);
            }
            List<Integer> watchers = new ArrayList<>(now.watchers);
            if (on == 1) {
                watchers.add(person);
            } else {
                watchers.remove(Integer.valueOf(person));
            }
            act(now.watchedBy(watchers));
            return 1;
        }

        int send(int person, int place) {
            if (!person(person) || !place(place) || now.spots.get(person) == place) {
                return refuse(3, 0);
            }
            List<Integer> spots = new ArrayList<>(now.spots);
            spots.set(person, place);
            act(now.with(spots));
            return 1;
        }

        int undo() {
            if (past.isEmpty()) {
                return refuse(4, 0);
            }
            now = past.remove(past.size() - 1);
            return 1;
        }

        int seed(int to) {
            if (to < 0) {
                return refuse(5, 0);
            }
            seed = to;
            return 1;
        }

        int kept(int k, int what) {
            int told = Math.min(40, now.kept.size());
            if (k < 0 || k >= told || what < 0 || what > 2) {
                return -1;
            }
            return now.kept.get(now.kept.size() - told + k)[what];
        }

        static int proof(List<Integer> bytes) {
            int c = 193;
            for (int octet : bytes) {
                c = (5 * c + octet) % 251;
            }
            return c;
        }

        int image() {
            List<Integer> bytes = new ArrayList<>(List.of(now.day >> 8, now.day & 255));
            for (int person = 0; person < town.people.size(); person++) {
                bytes.addAll(List.of(now.spots.get(person), now.watchers.contains(person) ? 1 : 0));
            }
            bytes.add(now.reel.size());
            for (Frame frame : now.reel) {
                bytes.addAll(List.of(frame.step, frame.place, frame.many));
            }
            bytes.add(proof(bytes));
            image = bytes.stream().mapToInt(octet -> octet).toArray();
            return image.length;
        }

        int on() {
            Deque<Integer> bytes = new ArrayDeque<>();
            List<Integer> ahead = new ArrayList<>();
            for (int octet : taken()) {
                bytes.add(octet);
                ahead.add(octet);
            }
            int people = town.people.size();
            if (bytes.size() < 4 + 2 * people || ahead.remove(ahead.size() - 1) != proof(ahead)) {
                return refuse(5, 0);
            }
            int day = bytes.remove() * 256 + bytes.remove();
            boolean good = day <= 999;
            List<Integer> spots = new ArrayList<>();
            List<Integer> watchers = new ArrayList<>();
            for (int person = 0; person < people; person++) {
                spots.add(bytes.remove());
                int watches = bytes.remove();
                good &= place(spots.get(person)) && watches <= 1;
                if (watches == 1) {
                    watchers.add(person);
                }
            }
            int frames = bytes.remove();
            if (!good || frames > 8 || bytes.size() != 3 * frames + 1) {
                return refuse(5, 0);
            }
            List<Frame> reel = new ArrayList<>();
            for (int k = 0; k < frames; k++) {
                Frame frame = new Frame(bytes.remove(), bytes.remove(), bytes.remove());
                good &= frame.step >= 1 && frame.step <= 8 && place(frame.place) && frame.many <= 6;
                good &= reel.stream().noneMatch(old -> old.step == frame.step && old.place == frame.place);
                reel.add(frame);
            }
            if (!good) {
                return refuse(5, 0);
            }
            now = new State(day, spots, watchers, reel, List.of());
            past.clear();
            return 1;
        }
    }

    // ---- the runs

    private static final class Run {
        private static final String[] QUESTIONS = {"fault 1", "has 1", "letter 3", "far 2", "person 2", "frame 2",
            "where 2", "who 2", "agrees 0", "self 2", "cuts 0", "crowd 0", "empty 0", "later 2", "meet 2", "round 0",
            "began 2", "kept 2", "image 0", "octet 1", "status 1"};
        private static final String[] ACTS = {"days 1", "chance 1", "chance 1", "show 3", "show 3", "show 3", "show 3",
            "show 3", "show 3", "cut 1", "watch 2", "watch 2", "watch 2", "send 2", "send 2", "undo 0", "undo 0",
            "seed 1"};
        private static final String SIGNS = ";()[],+-*/%<>=  \n09azZ\0\u00ff";

        private final Random random;
        private final int number;
        private final SilentReel real = new SilentReel();
        private final Model model = new Model();
        private int calls;

        Run(Random random, int number) {
            this.random = random;
            this.number = number;
        }

        void go() {
            readTown(new Texts(random).town());
            while (calls < CALLS) {
                int choice = random.nextInt(100);
                if (choice == 0 && calls < CALLS - 100) {
                    readTown(random.nextBoolean() ? new Texts(random).town() : wronged(new Texts(random).town()));
                } else if (choice < 4) {
                    seeSome();
                } else if (choice < 6) {
                    turnOn();
                } else {
                    some(choice < 35 ? ACTS : QUESTIONS);
                }
            }
        }

        void readWrong() {
            readTown(wronged(new Texts(random).town()));
        }

        void some(String[] calls) {
            String[] call = calls[random.nextInt(calls.length)].split(" ");
            int[] a = new int[Integer.parseInt(call[1])];
            for (int k = 0; k < a.length; k++) {
                a[k] = random.nextInt(25) == 0 ? odd() : argument(call[0], k);
            }
            if (call[0].equals("show") && random.nextInt(4) > 0 && model.place(a[1]) && a[0] >= 1 && a[0] <= 8) {
                a[2] = Model.count(model.day(model.now).get(a[0]), a[1]);
            }
            both(call[0], a);
        }

        int odd() {
            return random.nextInt(4) == 0 ? random.nextInt() : random.nextInt(12) - 2;
        }

        int below(int bound) {
            return random.nextInt(Math.max(1, bound));
        }

        int argument(String call, int k) {
            int place = below(model.town.places.size());
            int person = below(model.town.people.size());
            return switch (call) {
                case "letter" -> k == 0 ? below(2) : k == 1 ? Math.min(place, person) : below(6);
                case "far" -> place;
                case "self", "show" -> k == 0 ? 1 + below(8) : k == 1 ? place : below(7);
                case "person" -> k == 0 ? person : below(3);
                case "frame" -> k == 0 ? below(model.now.reel.size()) : below(5);
                case "cut" -> below(model.now.reel.size());
                case "where" -> k == 0 ? person : below(9);
                case "who" -> k == 0 ? place : below(9);
                case "later" -> k == 0 ? person : below(below(3) == 0 ? 42 : 4);
                case "meet" -> person;
                case "began" -> k == 0 ? person : below(4);
                case "days", "chance" -> 1 + below(below(6) == 0 ? 41 : 3);
                case "watch" -> k == 0 ? person : below(2);
                case "send" -> k == 0 ? person : place;
                case "kept" -> k == 0 ? below(Math.min(40, model.now.kept.size())) : below(3);
                case "seed" -> random.nextInt() & (below(9) == 0 ? -1 : Integer.MAX_VALUE);
                case "octet" -> below(model.image.length);
                case "has" -> below(11);
                case "status" -> below(6);
                default -> below(3);
            };
        }

        void readTown(String text) {
            feed(text.getBytes(StandardCharsets.ISO_8859_1));
            both("town");
            both("fault", 0);
            both("fault", 1);
        }

        String wronged(String text) {
            StringBuilder wrong = new StringBuilder(text);
            int at = random.nextInt(text.length());
            String[] words = text.split("(?<=[^a-z0-9])|(?=[^a-z0-9])");
            String word = words[random.nextInt(words.length)];
            char sign = SIGNS.charAt(random.nextInt(SIGNS.length()));
            int from = wordAt(text, at);
            switch (random.nextInt(11)) {
                case 0 -> wrong.deleteCharAt(at);
                case 1 -> wrong.insert(at, sign);
                case 2 -> wrong.setCharAt(at, sign);
                case 3 -> wrong.setLength(at);
                case 4 -> wrong.insert(from, " " + word + " ");
                case 5 -> wrong.insert(from, Parser.OWN.get(random.nextInt(24)) + " ");
                case 6 -> wrong.replace(from, Math.min(text.length(), from + 1), word);
                case 7 -> changeNumber(wrong, at);
                case 8 -> deepen(wrong);
                default -> repeatStatement(wrong, text);
            }
            return wrong.length() > 1600 ? wrong.substring(0, 1600) : wrong.toString();
        }

        void changeNumber(StringBuilder wrong, int at) {
            for (int k = at; k < wrong.length(); k++) {
                if (Parser.digit(wrong.charAt(k))) {
                    wrong.replace(k, k + 1, "" + random.nextInt(random.nextBoolean() ? 12 : 12000));
                    return;
                }
            }
        }

        void deepen(StringBuilder wrong) {
            List<Integer> spots = new ArrayList<>();
            for (int k = Math.max(0, wrong.indexOf("stays")); k < wrong.length(); k++) {
                if ("(+-*/%,<>=[".indexOf(wrong.charAt(k)) >= 0) {
                    spots.add(k + 1);
                }
            }
            if (!spots.isEmpty()) {
                String[] openers = {"(", "(", "(", "min(", "if(", "if(all,", "if([", "[", "not "};
                int at = spots.get(random.nextInt(spots.size()));
                for (int k = 1 + random.nextInt(9); k > 0; k--) {
                    wrong.insert(at, openers[random.nextInt(random.nextInt(3) == 0 ? openers.length : 3)]);
                }
            }
        }

        void repeatStatement(StringBuilder wrong, String text) {
            String[] statements = text.split(";");
            String again = statements[random.nextInt(statements.length)];
            int behind = random.nextInt(statements.length);
            int at = 0;
            for (int k = 0; k < behind; k++) {
                at = wrong.indexOf(";", at) + 1;
            }
            wrong.insert(at, again + ";");
        }

        int wordAt(String text, int at) {
            int from = at;
            while (from > 0 && Character.isLetterOrDigit(text.charAt(from - 1))) {
                from--;
            }
            return from;
        }

        void seeSome() {
            int rows = random.nextInt(10) == 0 ? random.nextInt(19) : 1 + random.nextInt(2);
            byte[] bytes = new byte[3 * rows + (random.nextInt(10) == 0 ? 1 : 0)];
            for (int k = 0; k < 3 * rows; k += 3) {
                bytes[k] = (byte) (random.nextInt(8) + (random.nextInt(20) == 0 ? 0 : 1));
                bytes[k + 1] = (byte) random.nextInt(random.nextInt(5) == 0 ? 7 : 3);
                bytes[k + 2] = (byte) random.nextInt(3);
            }
            feed(bytes);
            both("see");
            both("has", 8);
        }

        void turnOn() {
            model.image();
            int[] image = model.image.clone();
            both("image");
            if (random.nextBoolean()) {
                int day = random.nextBoolean() ? 990 + random.nextInt(11) : random.nextInt(1000);
                image[0] = day >> 8;
                image[1] = day & 255;
            }
            for (int k = random.nextInt(3); k > 0; k--) {
                image[2 + random.nextInt(image.length - 2)] = random.nextInt(8);
            }
            if (random.nextInt(10) == 0) {
                image = Arrays.copyOf(image, random.nextInt(image.length + 4));
            }
            List<Integer> ahead = new ArrayList<>();
            for (int k = 0; k + 1 < image.length; k++) {
                ahead.add(image[k]);
            }
            if (image.length > 0 && random.nextInt(10) > 0) {
                image[image.length - 1] = Model.proof(ahead);
            }
            byte[] bytes = new byte[image.length];
            for (int k = 0; k < bytes.length; k++) {
                bytes[k] = (byte) image[k];
            }
            feed(bytes);
            both("on");
        }

        void feed(byte[] bytes) {
            both("end", 0);
            byte[] padded = Arrays.copyOf(bytes, (bytes.length + 19) / 20 * 20);
            java.nio.IntBuffer numbers = java.nio.ByteBuffer.wrap(padded).asIntBuffer();
            while (numbers.hasRemaining()) {
                int[] a = new int[5];
                numbers.get(a);
                both("feed", a);
            }
            if (random.nextInt(20) == 0) {
                both("end", padded.length + 1);
            }
            both("end", bytes.length);
        }

        void both(String call, int... a) {
            calls++;
            int due = model.ask(call, a);
            int got = answer(call, a);
            Check.due("run " + number + " call " + calls + ": " + call + Arrays.toString(a), got, due);
        }

        int answer(String call, int[] a) {
            return switch (call) {
                case "feed" -> real.feed(a[0], a[1], a[2], a[3], a[4]);
                case "end" -> real.end(a[0]) ? 1 : 0;
                case "town" -> real.town();
                case "fault" -> real.fault(a[0]);
                case "has" -> real.has(a[0]);
                case "letter" -> real.letter(a[0], a[1], a[2]);
                case "far" -> real.far(a[0], a[1]);
                case "person" -> real.person(a[0], a[1]);
                case "frame" -> real.frame(a[0], a[1]);
                case "where" -> real.where(a[0], a[1]);
                case "who" -> real.who(a[0], a[1]);
                case "agrees" -> real.agrees();
                case "self" -> real.self(a[0], a[1]);
                case "cuts" -> real.cuts();
                case "crowd" -> real.crowd();
                case "empty" -> real.empty();
                case "later" -> real.later(a[0], a[1]);
                case "meet" -> real.meet(a[0], a[1]);
                case "round" -> real.round();
                case "see" -> real.see();
                case "began" -> real.began(a[0], a[1]);
                case "days" -> real.days(a[0]);
                case "chance" -> real.chance(a[0]);
                case "show" -> real.show(a[0], a[1], a[2]) ? 1 : 0;
                case "cut" -> real.cut(a[0]) ? 1 : 0;
                case "watch" -> real.watch(a[0], a[1]) ? 1 : 0;
                case "send" -> real.send(a[0], a[1]) ? 1 : 0;
                case "undo" -> real.undo() ? 1 : 0;
                case "seed" -> real.seed(a[0]) ? 1 : 0;
                case "kept" -> real.kept(a[0], a[1]);
                case "image" -> real.image();
                case "octet" -> real.octet(a[0]);
                case "on" -> real.on() ? 1 : 0;
                default -> real.status(a[0]);
            };
        }
    }

    /** Towns without a fault, with blanks here and there. */
    private static final class Texts {
        private final Random random;
        private final StringBuilder text = new StringBuilder();
        private boolean inGoes;

        Texts(Random random) {
            this.random = random;
        }

        String town() {
            int places = 1 + random.nextInt(7);
            int people = random.nextInt(20) == 0 ? 0 : 1 + random.nextInt(6);
            for (int place = 0; place < places; place++) {
                add("place " + (char) ('p' + place) + ";");
            }
            roads(places);
            for (int person = 0; person < people; person++) {
                add("person " + (char) ('a' + person) + "x at " + (char) ('p' + random.nextInt(places)) + " kind "
                        + random.nextInt(10) + ";");
                if (random.nextInt(3) > 0) {
                    add("watch " + (char) ('a' + person) + "x;");
                }
            }
            frames(places);
            for (int k = random.nextInt(3); k > 0; k--) {
                add("rain " + random.nextInt(101) + ";");
            }
            if (random.nextInt(4) > 0) {
                inGoes = false;
                add("stays ");
                test(2);
                add(";");
            }
            if (random.nextInt(8) > 0) {
                inGoes = true;
                add("goes ");
                sum(3);
                add(";");
            }
            if (random.nextInt(30) == 0) {
                add("rain 1;".repeat(81 - (int) text.chars().filter(sign -> sign == ';').count()
                        - random.nextInt(2)));
            }
            return text.length() > 1590 ? "place only;" : text.toString();
        }

        void roads(int places) {
            int count = 0;
            for (int from = 0; from < places; from++) {
                for (int to = from + 1; to < places && count < 12; to++) {
                    if (random.nextInt(5) < 2) {
                        boolean turned = random.nextBoolean();
                        add("road " + (char) ('p' + (turned ? to : from)) + " to "
                                + (char) ('p' + (turned ? from : to)) + ";");
                        count++;
                    }
                }
            }
        }

        void frames(int places) {
            List<String> frames = new ArrayList<>();
            for (int k = random.nextInt(9); k > 0; k--) {
                String frame = "frame " + (1 + random.nextInt(8)) + " " + (char) ('p' + random.nextInt(places)) + " ";
                if (!frames.contains(frame)) {
                    frames.add(frame);
                    add(frame + random.nextInt(random.nextInt(4) == 0 ? 7 : 3) + ";");
                }
            }
        }

        void add(String more) {
            for (char sign : more.toCharArray()) {
                boolean apart = !Character.isLetterOrDigit(sign);
                if (apart && random.nextInt(12) == 0) {
                    text.append(random.nextBoolean() ? " " : "\n");
                }
                text.append(sign);
                if (apart && random.nextInt(12) == 0) {
                    text.append(random.nextBoolean() ? " " : "\n");
                }
            }
        }

        void sum(int deep) {
            part(deep);
            for (int k = random.nextInt(3); k > 0; k--) {
                add("" + "++--**/%".charAt(random.nextInt(8)));
                part(deep);
            }
        }

        void part(int deep) {
            switch (random.nextInt(deep > 0 ? 12 : 7)) {
                case 0, 1 -> add("" + random.nextInt(random.nextInt(9) == 0 ? 10000 : 10));
                case 2 -> add("kind");
                case 3 -> add(inGoes ? "far" : "step");
                case 4 -> add(inGoes ? "there" : "here");
                case 5 -> add("shown");
                case 6 -> add(new String[] {"day", "step", "here", "shown"}[random.nextInt(4)]);
                case 7 -> {
                    add("(");
                    sum(deep - 1);
                    add(")");
                }
                case 8, 9 -> {
                    add(random.nextBoolean() ? "min(" : "max(");
                    sum(deep - 1);
                    add(",");
                    sum(deep - 1);
                    add(")");
                }
                default -> {
                    add("if(");
                    test(deep - 1);
                    add(",");
                    sum(deep - 1);
                    add(",");
                    sum(deep - 1);
                    add(")");
                }
            }
        }

        void test(int deep) {
            fact(deep);
            for (int k = random.nextInt(6) / 3; k > 0; k--) {
                add(random.nextBoolean() ? " and " : " or ");
                fact(deep);
            }
        }

        void fact(int deep) {
            switch (random.nextInt(deep > 0 ? 9 : 6)) {
                case 6 -> {
                    add("not ");
                    fact(deep - 1);
                }
                case 7 -> {
                    add("[");
                    test(deep - 1);
                    add("]");
                }
                case 8 -> add("all");
                default -> {
                    sum(Math.min(deep, 1));
                    add("" + "<>=".charAt(random.nextInt(3)));
                    sum(Math.min(deep, 1));
                }
            }
        }
    }
}
