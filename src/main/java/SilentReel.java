import java.util.Arrays;

/** A newsreel of tomorrow, silent; what it must do stands in DOC.md, as numbered promises. */
public final class SilentReel {
    public static final int NONE = -1;

    private static final int MOST_PLACES = 7;
    private static final int MOST_ROADS = 12;
    private static final int MOST_PEOPLE = 6;
    private static final int MOST_FRAMES = 8;
    private static final int MOST_STATEMENTS = 80;
    private static final int STEPS = 8;
    private static final int MOST_SHOWN = 6;
    private static final int MOST_KIND = 9;
    private static final int MOST_RAIN = 100;
    private static final int LAST_DAY = 999;
    private static final int MOST_DAYS = 40;
    private static final int MOST_TOLD = 40;
    private static final int TAPE_BYTES = 1600;
    private static final int FED_BYTES = 20;
    private static final int NAME_LETTERS = 6;
    /** Both for nothing shown and for no way. */
    private static final int NOTHING = 9;

    private final Tape tape;
    private final TownReader reader;
    private Town town;
    private Town spare;
    private final Scene scene;
    private final Scene guess;
    private final Walk today;
    private final Walk trial;
    private boolean todayStands;
    private final Past past;
    private final Picture picture;
    private final Beginnings beginnings;
    private final int[] refusals;
    private int drawn;

    public SilentReel() {
        tape = new Tape();
        reader = new TownReader(tape);
        town = new Town();
        spare = new Town();
        scene = new Scene();
        guess = new Scene();
        today = new Walk();
        trial = new Walk();
        past = new Past();
        picture = new Picture();
        beginnings = new Beginnings();
        refusals = new int[6];
        drawn = 1;
    }

    // ---- the tape and the town

    public int feed(int a, int b, int c, int d, int e) {
        if (tape.length + FED_BYTES > TAPE_BYTES) {
            return refuse(0);
        }
        tape.add(a);
        tape.add(b);
        tape.add(c);
        tape.add(d);
        tape.add(e);
        return tape.length;
    }

    public boolean end(int n) {
        if (n < 0 || n > tape.length) {
            return deny(0);
        }
        tape.length = n;
        return true;
    }

    public int town() {
        int statements = reader.read(spare);
        tape.length = 0;
        if (statements == NONE) {
            return refuse(1);
        }
        Town old = town;
        town = spare;
        spare = old;
        scene.beginIn(town);
        past.forget();
        beginnings.rowCount = 0;
        todayStands = false;
        return statements;
    }

    public int fault(int what) {
        switch (what) {
            case 0: return tape.fault;
            case 1: return tape.faultAt;
            default: return NONE;
        }
    }

    public int has(int what) {
        switch (what) {
            case 0: return town.placeCount;
            case 1: return town.roadCount;
            case 2: return town.peopleCount;
            case 3: return scene.day;
            case 4: return scene.reel.count;
            case 5: return Integer.bitCount(scene.watchers);
            case 6: return thisDay().trueOnes(scene.reel);
            case 7: return told();
            case 8: return beginnings.rowCount;
            case 9: return past.actCount;
            case 10: return drawn;
            default: return NONE;
        }
    }

    public int letter(int kind, int which, int k) {
        if (k < 0 || k >= NAME_LETTERS) {
            return NONE;
        }
        if (kind == 0 && isPlace(which)) {
            return Tape.letterOf(town.placeNames[which], k);
        }
        if (kind == 1 && isPerson(which)) {
            return Tape.letterOf(town.peopleNames[which], k);
        }
        return NONE;
    }

    public int far(int from, int to) {
        return isPlace(from) && isPlace(to) ? town.roadsBetween(from, to) : NONE;
    }

    public int person(int person, int what) {
        if (!isPerson(person)) {
            return NONE;
        }
        switch (what) {
            case 0: return scene.spots[person];
            case 1: return town.kinds[person];
            case 2: return scene.watches(person) ? 1 : 0;
            default: return NONE;
        }
    }

    public int frame(int k, int what) {
        if (!isFrame(k)) {
            return NONE;
        }
        Reel reel = scene.reel;
        switch (what) {
            case 0: return reel.steps[k];
            case 1: return reel.places[k];
            case 2: return reel.numbers[k];
            case 3: return thisDay().isTrue(reel, k) ? 1 : 0;
            case 4: return thisDay().peopleIn(reel.places[k], reel.steps[k]);
            default: return NONE;
        }
    }

    // ---- this day

    public int where(int person, int step) {
        if (!isPerson(person) || step < 0 || step > STEPS) {
            return NONE;
        }
        return thisDay().spotOf(person, step);
    }

    public int who(int place, int step) {
        if (!isPlace(place) || step < 0 || step > STEPS) {
            return NONE;
        }
        return thisDay().peopleIn(place, step);
    }

    public int agrees() {
        return thisDay().agreesWith(scene.reel) ? 1 : 0;
    }

    public int self(int step, int place) {
        if (!isStep(step) || !isPlace(place)) {
            return NONE;
        }
        int bits = 0;
        guess.copy(scene);
        for (int number = 0; number <= MOST_SHOWN; number++) {
            guess.reel.put(step, place, number);
            trial.goThrough(town, guess);
            if (trial.countIn(place, step) == number) {
                bits |= 1 << number;
            }
        }
        return bits;
    }

    public int cuts() {
        int count = scene.reel.count;
        int all = 1 << count;
        for (int size = 0; size <= count; size++) {
            for (int bits = 0; bits < all; bits++) {
                if (Integer.bitCount(bits) == size && agreesWithout(bits)) {
                    return bits;
                }
            }
        }
        return all - 1;
    }

    public int crowd() {
        int count = town.peopleCount;
        int all = 1 << count;
        guess.copy(scene);
        for (int size = 0; size <= count; size++) {
            for (int bits = 0; bits < all; bits++) {
                if (Integer.bitCount(bits) != size) {
                    continue;
                }
                guess.watchers = bits;
                if (trial.agreesIn(town, guess)) {
                    return bits;
                }
            }
        }
        return NONE;
    }

    public int empty() {
        int bits = 0;
        Walk day = thisDay();
        for (int place = 0; place < town.placeCount; place++) {
            if (day.isNeverEntered(place)) {
                bits |= 1 << place;
            }
        }
        return bits;
    }

    // ---- ahead

    public int later(int person, int n) {
        if (!isPerson(person) || n < 0 || n > daysAhead()) {
            return NONE;
        }
        guess.copy(scene);
        for (int k = 0; k < n; k++) {
            trial.goThrough(town, guess);
            guess.passInto(trial);
        }
        return guess.spots[person];
    }

    public int meet(int one, int other) {
        if (!isPerson(one) || !isPerson(other) || one == other) {
            return NONE;
        }
        int most = daysAhead();
        guess.copy(scene);
        for (int k = 1; k <= most; k++) {
            trial.goThrough(town, guess);
            if (trial.bringsTogether(one, other)) {
                return k;
            }
            guess.passInto(trial);
        }
        return NONE;
    }

    public int round() {
        int most = daysAhead();
        guess.copy(scene);
        for (int k = 1; k <= most; k++) {
            trial.goThrough(town, guess);
            guess.passInto(trial);
            if (guess.hasSpotsOf(scene, town.peopleCount)) {
                return k;
            }
        }
        return NONE;
    }

    // ---- where one began

    public int see() {
        boolean taken = beginnings.takeRows(tape, town);
        tape.length = 0;
        return taken ? beginnings.rowCount : refuse(5);
    }

    public int began(int person, int what) {
        if (!isPerson(person) || what < 0 || what > 3) {
            return NONE;
        }
        findBeginnings(person);
        switch (what) {
            case 0: return beginnings.bits;
            case 1: return beginnings.tellingStep;
            case 2: return beginnings.tellingPlace;
            default: return beginnings.left;
        }
    }

    // ---- acts

    public int days(int n) {
        if (n < 1 || n > daysAhead()) {
            return refuse(2);
        }
        past.remember(scene);
        int agreeing = 0;
        for (int k = 0; k < n; k++) {
            Walk day = thisDay();
            agreeing += day.agreesWith(scene.reel) ? 1 : 0;
            pass(day);
        }
        return agreeing;
    }

    public int chance(int n) {
        if (n < 1 || n > daysAhead()) {
            return refuse(2);
        }
        past.remember(scene);
        int rained = 0;
        for (int k = 0; k < n; k++) {
            rained += rainCuts() ? 1 : 0;
            pass(thisDay());
        }
        return rained;
    }

    public boolean show(int step, int place, int many) {
        Reel reel = scene.reel;
        if (!isStep(step) || !isPlace(place) || many < 0 || many > MOST_SHOWN
                || reel.count >= MOST_FRAMES || reel.indexOf(step, place) != NONE) {
            return deny(3);
        }
        act();
        reel.put(step, place, many);
        return true;
    }

    public boolean cut(int k) {
        if (!isFrame(k)) {
            return deny(3);
        }
        act();
        scene.reel.remove(k);
        return true;
    }

    public boolean watch(int person, int on) {
        if (!isPerson(person) || on < 0 || on > 1 || scene.watches(person) == (on == 1)) {
            return deny(3);
        }
        act();
        scene.watchers ^= 1 << person;
        return true;
    }

    public boolean send(int person, int place) {
        if (!isPerson(person) || !isPlace(place) || scene.spots[person] == place) {
            return deny(3);
        }
        act();
        scene.spots[person] = place;
        return true;
    }

    public boolean undo() {
        if (!past.bringBack(scene)) {
            return deny(4);
        }
        todayStands = false;
        return true;
    }

    public boolean seed(int seed) {
        if (seed < 0) {
            return deny(5);
        }
        drawn = seed;
        return true;
    }

    public int kept(int k, int what) {
        int told = told();
        if (k < 0 || k >= told || what < 0 || what > 2) {
            return NONE;
        }
        return past.keptOf(scene.keptDays - told + k, what);
    }

    // ---- images, refusals

    public int image() {
        picture.write(town, scene);
        return picture.length;
    }

    public int octet(int k) {
        return k >= 0 && k < picture.length ? picture.bytes[k] : NONE;
    }

    public boolean on() {
        boolean read = Picture.read(tape, town, guess);
        tape.length = 0;
        if (!read) {
            return deny(5);
        }
        scene.copy(guess);
        past.forget();
        todayStands = false;
        return true;
    }

    public int status(int what) {
        return what >= 0 && what < refusals.length ? refusals[what] : NONE;
    }

    // ---- what the calls share

    private int refuse(int what) {
        refusals[what]++;
        return NONE;
    }

    private boolean deny(int what) {
        refusals[what]++;
        return false;
    }

    private boolean isPlace(int place) {
        return place >= 0 && place < town.placeCount;
    }

    private boolean isPerson(int person) {
        return person >= 0 && person < town.peopleCount;
    }

    private boolean isFrame(int k) {
        return k >= 0 && k < scene.reel.count;
    }

    private static boolean isStep(int step) {
        return step >= 1 && step <= STEPS;
    }

    private int told() {
        return Math.min(scene.keptDays, MOST_TOLD);
    }

    private int daysAhead() {
        return Math.min(MOST_DAYS, LAST_DAY - scene.day);
    }

    /** The day is gone through once for all the questions that come until something changes. */
    private Walk thisDay() {
        if (!todayStands) {
            today.goThrough(town, scene);
            todayStands = true;
        }
        return today;
    }

    private boolean agreesWithout(int bits) {
        guess.copy(scene);
        for (int k = scene.reel.count - 1; k >= 0; k--) {
            if ((bits >> k & 1) == 1) {
                guess.reel.remove(k);
            }
        }
        return trial.agreesIn(town, guess);
    }

    private void findBeginnings(int person) {
        beginnings.clear();
        guess.copy(scene);
        for (int place = 0; place < town.placeCount; place++) {
            guess.spots[person] = place;
            trial.goThrough(town, guess);
            beginnings.weigh(place, trial);
        }
        beginnings.findTelling(town.placeCount);
    }

    private void act() {
        past.remember(scene);
        todayStands = false;
    }

    private void pass(Walk day) {
        past.keep(scene, day.trueOnes(scene.reel));
        scene.passInto(day);
        todayStands = false;
    }

    private boolean rainCuts() {
        boolean rains = draw(MOST_RAIN) < town.rain;
        int frames = scene.reel.count;
        if (!rains || frames == 0) {
            return false;
        }
        scene.reel.remove(draw(frames));
        todayStands = false;
        return true;
    }

    private int draw(int m) {
        drawn = (int) ((1103515245L * drawn + 12345L) & 0x7fffffffL);
        return m > 0 ? drawn / 64 % m : 0;
    }

    /** The bytes fed, and, while a town is read, its words, numbers and signs one by one. */
    private static final class Tape {
        static final int END = 0;
        static final int WORD = 1;
        static final int NUMBER = 2;
        static final int SIGN = 3;
        static final int BAD = 4;

        static final int PLACE = 0;
        static final int ROAD = 1;
        static final int TO = 2;
        static final int PERSON = 3;
        static final int AT = 4;
        static final int KIND = 5;
        static final int WATCH = 6;
        static final int FRAME = 7;
        static final int STAYS = 8;
        static final int GOES = 9;
        static final int RAIN = 10;
        static final int STEP = 11;
        static final int DAY = 12;
        static final int HERE = 13;
        static final int SHOWN = 14;
        static final int THERE = 15;
        static final int FAR = 16;
        static final int IF = 17;
        static final int OR = 18;
        static final int AND = 19;
        static final int NOT = 20;
        static final int ALL = 21;
        static final int MIN = 22;
        static final int MAX = 23;

        private static final int OWN_COUNT = 24;
        /** Six signs each, in the order of the numbers above: an array of texts may not be static. */
        private static final String OWN_WORDS =
                "place road  to    personat    kind  watch frame stays goes  rain  step  day   here  shown there far   if    or    and   not   all   min   max   ";
        private static final int NUMBER_DIGITS = 4;

        final int[] bytes = new int[TAPE_BYTES];
        int length;
        int sort;
        int start;
        int value;
        /** Which own word it is; NONE for all else. */
        int own;
        int fault;
        int faultAt = NONE;
        private final int[] ownNames = new int[OWN_COUNT];
        private int next;
        private int wrongAt;

        Tape() {
            for (int k = 0; k < OWN_COUNT; k++) {
                ownNames[k] = packedOwn(k);
            }
        }

        /** A name is one number, five bits a letter, so that names are compared at once. */
        private static int packedOwn(int word) {
            int packed = 0;
            for (int k = 0; k < NAME_LETTERS; k++) {
                char sign = OWN_WORDS.charAt(NAME_LETTERS * word + k);
                packed = packed << 5 | (sign == ' ' ? 0 : sign - 'a' + 1);
            }
            return packed;
        }

        static int letterOf(int name, int k) {
            return name >> 5 * (NAME_LETTERS - 1 - k) & 31;
        }

        void add(int number) {
            for (int shift = 24; shift >= 0 && length < TAPE_BYTES; shift -= 8) {
                bytes[length] = number >>> shift & 255;
                length++;
            }
        }

        void startReading() {
            fault = 0;
            faultAt = NONE;
            next = 0;
            sort = END;
            advance();
        }

        void advance() {
            boolean behindWord = sort == WORD || sort == NUMBER;
            int behind = next;
            while (next < length && (bytes[next] == ' ' || bytes[next] == '\n')) {
                next++;
            }
            start = next;
            wrongAt = next;
            own = NONE;
            if (next >= length) {
                sort = END;
            } else if (letterAt(next) > 0) {
                readWord();
            } else if (digitAt(next) >= 0) {
                readNumber();
            } else {
                sort = SIGN;
                value = bytes[next];
                next++;
            }
            if (behindWord && start == behind && sort != END && sort != SIGN) {
                sort = BAD;
                wrongAt = start;
            }
        }

        private void readWord() {
            sort = WORD;
            value = 0;
            for (int k = 0; k < NAME_LETTERS; k++) {
                int letter = letterAt(next);
                value = value << 5 | letter;
                next += letter > 0 ? 1 : 0;
            }
            if (letterAt(next) > 0) {
                sort = BAD;
                wrongAt = next;
            }
            for (int k = 0; k < OWN_COUNT; k++) {
                if (ownNames[k] == value) {
                    own = k;
                }
            }
        }

        private void readNumber() {
            sort = NUMBER;
            value = 0;
            for (int k = 0; k < NUMBER_DIGITS && digitAt(next) >= 0; k++) {
                value = 10 * value + digitAt(next);
                next++;
            }
            if (digitAt(next) >= 0) {
                sort = BAD;
                wrongAt = next;
            }
        }

        private int letterAt(int k) {
            return k < length && bytes[k] >= 'a' && bytes[k] <= 'z' ? bytes[k] - 'a' + 1 : 0;
        }

        private int digitAt(int k) {
            return k < length && bytes[k] >= '0' && bytes[k] <= '9' ? bytes[k] - '0' : NONE;
        }

        boolean isSign(char sign) {
            return sort == SIGN && value == sign;
        }

        boolean isOwn(int word) {
            return sort == WORD && own == word;
        }

        boolean isName() {
            return sort == WORD && own == NONE;
        }

        boolean takeSign(char sign) {
            if (!isSign(sign)) {
                return misplaced();
            }
            advance();
            return true;
        }

        boolean takeOwn(int word) {
            if (!isOwn(word)) {
                return misplaced();
            }
            advance();
            return true;
        }

        boolean misplaced() {
            fault = 1;
            faultAt = wrongAt;
            return false;
        }

        boolean fail(int number) {
            fault = number;
            faultAt = start;
            return false;
        }
    }

    /** Places, roads, people and rules as they were told. */
    private static final class Town {
        int placeCount;
        final int[] placeNames = new int[MOST_PLACES];
        int roadCount;
        /** Of each place those that one can go to, itself too, as bits. */
        final int[] near = new int[MOST_PLACES];
        private final int[] distances = new int[MOST_PLACES * MOST_PLACES];
        int peopleCount;
        final int[] peopleNames = new int[MOST_PEOPLE];
        final int[] homes = new int[MOST_PEOPLE];
        final int[] kinds = new int[MOST_PEOPLE];
        int watchers;
        final Reel reel = new Reel();
        int rain;
        final Formula stays = new Formula();
        final Formula goes = new Formula();

        void clear() {
            placeCount = 0;
            roadCount = 0;
            peopleCount = 0;
            watchers = 0;
            reel.count = 0;
            rain = 0;
            stays.size = 0;
            goes.size = 0;
        }

        void addPlace(int name) {
            if (placeCount < MOST_PLACES) {
                placeNames[placeCount] = name;
                near[placeCount] = 1 << placeCount;
                placeCount++;
            }
        }

        void addRoad(int one, int other) {
            near[one] |= 1 << other;
            near[other] |= 1 << one;
            roadCount++;
        }

        void addPerson(int name, int home, int kind) {
            if (peopleCount < MOST_PEOPLE) {
                peopleNames[peopleCount] = name;
                homes[peopleCount] = home;
                kinds[peopleCount] = kind;
                peopleCount++;
            }
        }

        int placeOf(int name) {
            return indexIn(placeNames, placeCount, name);
        }

        int personOf(int name) {
            return indexIn(peopleNames, peopleCount, name);
        }

        private static int indexIn(int[] names, int count, int name) {
            for (int k = 0; k < count; k++) {
                if (names[k] == name) {
                    return k;
                }
            }
            return NONE;
        }

        boolean reaches(int from, int to) {
            return (near[from] >> to & 1) == 1;
        }

        int roadsBetween(int from, int to) {
            return distances[MOST_PLACES * from + to];
        }

        void measure() {
            Arrays.fill(distances, NONE);
            for (int from = 0; from < placeCount; from++) {
                measureFrom(from);
            }
        }

        private void measureFrom(int from) {
            int reached = 0;
            int edge = 1 << from;
            for (int roads = 0; roads < MOST_PLACES; roads++) {
                reached |= edge;
                int beyond = 0;
                for (int place = 0; place < placeCount; place++) {
                    if ((edge >> place & 1) == 1) {
                        distances[MOST_PLACES * from + place] = roads;
                        beyond |= near[place];
                    }
                }
                edge = beyond & ~reached;
            }
        }
    }

    /** Frames in their order, with room for the ninth that is only thought of. */
    private static final class Reel {
        int count;
        final int[] steps = new int[MOST_FRAMES + 1];
        final int[] places = new int[MOST_FRAMES + 1];
        final int[] numbers = new int[MOST_FRAMES + 1];

        int indexOf(int step, int place) {
            for (int k = 0; k < count; k++) {
                if (steps[k] == step && places[k] == place) {
                    return k;
                }
            }
            return NONE;
        }

        /** In place of what is shown there, or behind all. */
        void put(int step, int place, int number) {
            int k = indexOf(step, place);
            if (k == NONE) {
                k = count;
            }
            if (k > MOST_FRAMES) {
                return;
            }
            steps[k] = step;
            places[k] = place;
            numbers[k] = number;
            count = Math.max(count, k + 1);
        }

        void remove(int k) {
            if (k < 0 || k >= count) {
                return;
            }
            count--;
            for (int i = k; i < count; i++) {
                steps[i] = steps[i + 1];
                places[i] = places[i + 1];
                numbers[i] = numbers[i + 1];
            }
        }

        void copy(Reel other) {
            count = other.count;
            System.arraycopy(other.steps, 0, steps, 0, count);
            System.arraycopy(other.places, 0, places, 0, count);
            System.arraycopy(other.numbers, 0, numbers, 0, count);
        }
    }

    /** All that an act can change. */
    private static final class Scene {
        int day;
        final int[] spots = new int[MOST_PEOPLE];
        int watchers;
        final Reel reel = new Reel();
        int keptDays;

        void beginIn(Town town) {
            day = 0;
            System.arraycopy(town.homes, 0, spots, 0, MOST_PEOPLE);
            watchers = town.watchers;
            reel.copy(town.reel);
            keptDays = 0;
        }

        void copy(Scene other) {
            day = other.day;
            System.arraycopy(other.spots, 0, spots, 0, MOST_PEOPLE);
            watchers = other.watchers;
            reel.copy(other.reel);
            keptDays = other.keptDays;
        }

        boolean watches(int person) {
            return (watchers >> person & 1) == 1;
        }

        boolean hasSpotsOf(Scene other, int people) {
            for (int person = 0; person < people; person++) {
                if (spots[person] != other.spots[person]) {
                    return false;
                }
            }
            return true;
        }

        void passInto(Walk gone) {
            for (int person = 0; person < MOST_PEOPLE; person++) {
                spots[person] = gone.spotOf(person, STEPS);
            }
            reel.count = 0;
            day++;
        }
    }

    /** A test or a sum as a row of codes, each working on the results of those ahead of it. */
    private static final class Formula {
        static final int KIND = -1;
        static final int STEP = -2;
        static final int DAY = -3;
        static final int HERE = -4;
        static final int SHOWN = -5;
        static final int THERE = -6;
        static final int FAR = -7;
        static final int ADD = -8;
        static final int SUBTRACT = -9;
        static final int MULTIPLY = -10;
        static final int DIVIDE = -11;
        static final int REST = -12;
        static final int LEAST = -13;
        static final int MOST = -14;
        static final int BELOW = -15;
        static final int ABOVE = -16;
        static final int EQUAL = -17;
        static final int BOTH = -18;
        static final int EITHER = -19;
        static final int NOT = -20;
        static final int CHOICE = -21;

        static final int KNOWN_COUNT = 7;
        static final int LIMIT = 1000000;
        /** Eight levels of brackets leave five results each waiting at the most. */
        private static final int WAITING = 64;

        private final int[] codes = new int[TAPE_BYTES];
        private final int[] results = new int[WAITING];
        int size;

        boolean add(int code) {
            if (size < TAPE_BYTES) {
                codes[size] = code;
                size++;
            }
            return true;
        }

        /** Both sides of a choice are worked out: no result can fail, so that is harmless. */
        int value(int[] known) {
            int top = 0;
            for (int k = 0; k < size && top < WAITING; k++) {
                int code = codes[k];
                if (code >= 0) {
                    results[top] = code;
                    top++;
                } else if (code >= FAR) {
                    results[top] = known[-1 - code];
                    top++;
                } else if (code == NOT && top >= 1) {
                    results[top - 1] = 1 - results[top - 1];
                } else if (code == CHOICE && top >= 3) {
                    top -= 2;
                    results[top - 1] = results[top - 1] == 1 ? results[top] : results[top + 1];
                } else if (top >= 2) {
                    top--;
                    long result = joined(code, results[top - 1], results[top]);
                    results[top - 1] = (int) Math.max(-LIMIT, Math.min(LIMIT, result));
                }
            }
            return top > 0 ? results[0] : 0;
        }

        private static long joined(int code, long a, long b) {
            switch (code) {
                case ADD: return a + b;
                case SUBTRACT: return a - b;
                case MULTIPLY: return a * b;
                case DIVIDE: return b == 0 ? 0 : Math.floorDiv(a, b);
                case REST: return b == 0 ? 0 : Math.floorMod(a, b);
                case LEAST: return Math.min(a, b);
                case MOST: return Math.max(a, b);
                case BELOW: return a < b ? 1 : 0;
                case ABOVE: return a > b ? 1 : 0;
                case EQUAL: return a == b ? 1 : 0;
                case BOTH: return a & b;
                case EITHER: return a | b;
                default: return 0;
            }
        }
    }

    /** Reads tests and sums into formulas; what is read is followed by the codes that use it. */
    private static final class FormulaReader {
        private static final int MOST_OPEN = 7;

        private final Tape tape;
        private Formula formula;
        private boolean inGoes;

        FormulaReader(Tape tape) {
            this.tape = tape;
        }

        void readInto(Formula into, boolean ofGoes) {
            formula = into;
            inGoes = ofGoes;
        }

        boolean test(int open) {
            boolean good = both(open);
            for (int k = 0; k < TAPE_BYTES && good && tape.isOwn(Tape.OR); k++) {
                tape.advance();
                good = both(open) && formula.add(Formula.EITHER);
            }
            return good;
        }

        private boolean both(int open) {
            boolean good = fact(open);
            for (int k = 0; k < TAPE_BYTES && good && tape.isOwn(Tape.AND); k++) {
                tape.advance();
                good = fact(open) && formula.add(Formula.BOTH);
            }
            return good;
        }

        private boolean fact(int open) {
            if (tape.isOwn(Tape.NOT)) {
                return opens(open) && fact(open + 1) && formula.add(Formula.NOT);
            }
            if (tape.isSign('[')) {
                return opens(open) && test(open + 1) && tape.takeSign(']');
            }
            if (tape.isOwn(Tape.ALL)) {
                return take(1);
            }
            if (!sum(open)) {
                return false;
            }
            int code = comparison();
            if (code == 0) {
                return tape.misplaced();
            }
            tape.advance();
            return sum(open) && formula.add(code);
        }

        private int comparison() {
            if (tape.isSign('<')) {
                return Formula.BELOW;
            }
            if (tape.isSign('>')) {
                return Formula.ABOVE;
            }
            return tape.isSign('=') ? Formula.EQUAL : 0;
        }

        boolean sum(int open) {
            boolean good = product(open);
            for (int k = 0; k < TAPE_BYTES && good && (tape.isSign('+') || tape.isSign('-')); k++) {
                int code = tape.isSign('+') ? Formula.ADD : Formula.SUBTRACT;
                tape.advance();
                good = product(open) && formula.add(code);
            }
            return good;
        }

        private boolean product(int open) {
            boolean good = part(open);
            for (int k = 0; k < TAPE_BYTES && good && productCode() != 0; k++) {
                int code = productCode();
                tape.advance();
                good = part(open) && formula.add(code);
            }
            return good;
        }

        private int productCode() {
            if (tape.isSign('*')) {
                return Formula.MULTIPLY;
            }
            if (tape.isSign('/')) {
                return Formula.DIVIDE;
            }
            return tape.isSign('%') ? Formula.REST : 0;
        }

        private boolean part(int open) {
            if (tape.sort == Tape.NUMBER) {
                return take(tape.value);
            }
            if (tape.isSign('(')) {
                return opens(open) && sum(open + 1) && tape.takeSign(')');
            }
            if (tape.sort != Tape.WORD) {
                return tape.misplaced();
            }
            switch (tape.own) {
                case Tape.KIND: return take(Formula.KIND);
                case Tape.STEP: return take(Formula.STEP);
                case Tape.DAY: return take(Formula.DAY);
                case Tape.HERE: return take(Formula.HERE);
                case Tape.SHOWN: return take(Formula.SHOWN);
                case Tape.THERE: return inGoes ? take(Formula.THERE) : tape.misplaced();
                case Tape.FAR: return inGoes ? take(Formula.FAR) : tape.misplaced();
                case Tape.MIN: return pair(open, Formula.LEAST);
                case Tape.MAX: return pair(open, Formula.MOST);
                case Tape.IF: return choice(open);
                default: return tape.misplaced();
            }
        }

        private boolean pair(int open, int code) {
            tape.advance();
            return opensBracket(open) && sum(open + 1) && tape.takeSign(',')
                    && sum(open + 1) && tape.takeSign(')') && formula.add(code);
        }

        private boolean choice(int open) {
            tape.advance();
            return opensBracket(open) && test(open + 1) && tape.takeSign(',')
                    && sum(open + 1) && tape.takeSign(',')
                    && sum(open + 1) && tape.takeSign(')') && formula.add(Formula.CHOICE);
        }

        private boolean opensBracket(int open) {
            return tape.isSign('(') ? opens(open) : tape.misplaced();
        }

        private boolean opens(int open) {
            if (open >= MOST_OPEN) {
                return tape.fail(5);
            }
            tape.advance();
            return true;
        }

        private boolean take(int code) {
            tape.advance();
            return formula.add(code);
        }
    }

    /** Reads statements into a town. */
    private static final class TownReader {
        private final Tape tape;
        private final FormulaReader formulas;
        private Town town;
        /** What the latest name or number was. */
        private int found;

        TownReader(Tape tape) {
            this.tape = tape;
            formulas = new FormulaReader(tape);
        }

        /** How many statements there are; NONE with a fault, which the tape tells. */
        int read(Town into) {
            town = into;
            town.clear();
            tape.startReading();
            for (int count = 0; count < MOST_STATEMENTS; count++) {
                if (tape.sort == Tape.END) {
                    town.measure();
                    return count;
                }
                if (!statement() || !tape.takeSign(';')) {
                    return NONE;
                }
            }
            if (tape.sort != Tape.END) {
                tape.fail(6);
                return NONE;
            }
            town.measure();
            return MOST_STATEMENTS;
        }

        private boolean statement() {
            if (tape.sort != Tape.WORD) {
                return tape.misplaced();
            }
            switch (tape.own) {
                case Tape.PLACE: return place();
                case Tape.ROAD: return road();
                case Tape.PERSON: return dweller();
                case Tape.WATCH: return watcher();
                case Tape.FRAME: return shownFrame();
                case Tape.STAYS:
                    formulas.readInto(town.stays, false);
                    return begins(town.stays.size, 1) && formulas.test(0);
                case Tape.GOES:
                    formulas.readInto(town.goes, true);
                    return begins(town.goes.size, 1) && formulas.sum(0);
                case Tape.RAIN: return rain();
                default: return tape.misplaced();
            }
        }

        private boolean place() {
            if (!begins(town.placeCount, MOST_PLACES) || !newName()) {
                return false;
            }
            town.addPlace(found);
            return true;
        }

        private boolean road() {
            if (!begins(town.roadCount, MOST_ROADS) || !placeName()) {
                return false;
            }
            int one = found;
            tape.advance();
            if (!tape.takeOwn(Tape.TO) || !placeName()) {
                return false;
            }
            if (town.reaches(one, found)) {
                return tape.fail(3);
            }
            town.addRoad(one, found);
            tape.advance();
            return true;
        }

        private boolean dweller() {
            if (!begins(town.peopleCount, MOST_PEOPLE) || !newName()) {
                return false;
            }
            int name = found;
            if (!tape.takeOwn(Tape.AT) || !placeName()) {
                return false;
            }
            int home = found;
            tape.advance();
            if (!tape.takeOwn(Tape.KIND) || !number(0, MOST_KIND)) {
                return false;
            }
            town.addPerson(name, home, found);
            return true;
        }

        private boolean watcher() {
            tape.advance();
            if (!tape.isName()) {
                return tape.misplaced();
            }
            int person = town.personOf(tape.value);
            if (person == NONE || (town.watchers >> person & 1) == 1) {
                return tape.fail(3);
            }
            town.watchers |= 1 << person;
            tape.advance();
            return true;
        }

        private boolean shownFrame() {
            if (!begins(town.reel.count, MOST_FRAMES) || !number(1, STEPS)) {
                return false;
            }
            int step = found;
            if (!placeName()) {
                return false;
            }
            int place = found;
            if (town.reel.indexOf(step, place) != NONE) {
                return tape.fail(3);
            }
            tape.advance();
            if (!number(0, MOST_SHOWN)) {
                return false;
            }
            town.reel.put(step, place, found);
            return true;
        }

        private boolean rain() {
            tape.advance();
            if (!number(0, MOST_RAIN)) {
                return false;
            }
            town.rain = found;
            return true;
        }

        private boolean begins(int count, int most) {
            if (count >= most) {
                return tape.fail(6);
            }
            tape.advance();
            return true;
        }

        private boolean newName() {
            if (!tape.isName()) {
                return tape.misplaced();
            }
            found = tape.value;
            if (town.placeOf(found) != NONE || town.personOf(found) != NONE) {
                return tape.fail(2);
            }
            tape.advance();
            return true;
        }

        /** Stays at the name, for a fault that more than the name may bring. */
        private boolean placeName() {
            if (!tape.isName()) {
                return tape.misplaced();
            }
            found = town.placeOf(tape.value);
            return found != NONE || tape.fail(3);
        }

        private boolean number(int least, int most) {
            if (tape.sort != Tape.NUMBER) {
                return tape.misplaced();
            }
            found = tape.value;
            if (found < least || found > most) {
                return tape.fail(4);
            }
            tape.advance();
            return true;
        }
    }

    /** A day gone through: who is where behind each step. */
    private static final class Walk {
        private final int[] spots = new int[(STEPS + 1) * MOST_PEOPLE];
        private final int[] people = new int[(STEPS + 1) * MOST_PLACES];
        private final int[] shown = new int[(STEPS + 1) * MOST_PLACES];
        private final int[] known = new int[Formula.KNOWN_COUNT];
        private Town town;
        private Scene scene;

        void goThrough(Town in, Scene from) {
            begin(in, from);
            for (int step = 1; step <= STEPS; step++) {
                for (int person = 0; person < in.peopleCount; person++) {
                    put(person, step, goal(person, step));
                }
            }
        }

        /** Ends at the first frame that is not true: most trials of many end so. */
        boolean agreesIn(Town in, Scene from) {
            begin(in, from);
            for (int step = 1; step <= STEPS; step++) {
                for (int person = 0; person < in.peopleCount; person++) {
                    put(person, step, goal(person, step));
                }
                if (!isTrueAt(step, from.reel)) {
                    return false;
                }
            }
            return true;
        }

        private void begin(Town in, Scene from) {
            town = in;
            scene = from;
            Arrays.fill(shown, NOTHING);
            Arrays.fill(people, 0);
            Reel reel = from.reel;
            for (int k = 0; k < reel.count; k++) {
                shown[MOST_PLACES * reel.steps[k] + reel.places[k]] = reel.numbers[k];
            }
            for (int person = 0; person < in.peopleCount; person++) {
                put(person, 0, from.spots[person]);
            }
        }

        private void put(int person, int step, int place) {
            spots[MOST_PEOPLE * step + person] = place;
            people[MOST_PLACES * step + place] |= 1 << person;
        }

        private int goal(int person, int step) {
            int own = spotOf(person, step - 1);
            know(Formula.KIND, town.kinds[person]);
            know(Formula.STEP, step);
            know(Formula.DAY, scene.day);
            know(Formula.HERE, countIn(own, step - 1));
            know(Formula.SHOWN, shownTo(person, own, step));
            return town.stays.value(known) == 1 ? own : bestPlace(person, own, step);
        }

        private int bestPlace(int person, int own, int step) {
            int best = own;
            int most = -Formula.LIMIT - 1;
            for (int place = 0; place < town.placeCount; place++) {
                if (!town.reaches(own, place)) {
                    continue;
                }
                int roads = town.roadsBetween(scene.spots[person], place);
                know(Formula.SHOWN, shownTo(person, place, step));
                know(Formula.THERE, countIn(place, step - 1));
                know(Formula.FAR, roads == NONE ? NOTHING : roads);
                int value = town.goes.value(known);
                if (value > most) {
                    most = value;
                    best = place;
                }
            }
            return best;
        }

        private void know(int code, int value) {
            known[-1 - code] = value;
        }

        private int shownTo(int person, int place, int step) {
            return scene.watches(person) ? shown[MOST_PLACES * step + place] : NOTHING;
        }

        int spotOf(int person, int step) {
            return spots[MOST_PEOPLE * step + person];
        }

        int peopleIn(int place, int step) {
            return people[MOST_PLACES * step + place];
        }

        int countIn(int place, int step) {
            return Integer.bitCount(peopleIn(place, step));
        }

        boolean isTrue(Reel reel, int k) {
            return countIn(reel.places[k], reel.steps[k]) == reel.numbers[k];
        }

        private boolean isTrueAt(int step, Reel reel) {
            for (int k = 0; k < reel.count; k++) {
                if (reel.steps[k] == step && !isTrue(reel, k)) {
                    return false;
                }
            }
            return true;
        }

        int trueOnes(Reel reel) {
            int count = 0;
            for (int k = 0; k < reel.count; k++) {
                count += isTrue(reel, k) ? 1 : 0;
            }
            return count;
        }

        boolean agreesWith(Reel reel) {
            return trueOnes(reel) == reel.count;
        }

        boolean isNeverEntered(int place) {
            int ever = 0;
            for (int step = 1; step <= STEPS; step++) {
                ever |= peopleIn(place, step);
            }
            return ever == 0;
        }

        boolean bringsTogether(int one, int other) {
            for (int step = 1; step <= STEPS; step++) {
                if (spotOf(one, step) == spotOf(other, step)) {
                    return true;
                }
            }
            return false;
        }
    }

    /** Scenes ahead of the acts that can be undone, and what came true. */
    private static final class Past {
        private static final int MOST_ACTS = 20;
        private static final int ROW = 3;

        private final Scene[] scenes = new Scene[MOST_ACTS];
        private int newest;
        int actCount;
        /** All days, not only those told: an undone act brings older ones back. */
        private final int[] rows = new int[ROW * LAST_DAY];

        Past() {
            for (int k = 0; k < MOST_ACTS; k++) {
                scenes[k] = new Scene();
            }
        }

        void forget() {
            actCount = 0;
        }

        void remember(Scene scene) {
            newest = (newest + 1) % MOST_ACTS;
            scenes[newest].copy(scene);
            actCount = Math.min(actCount + 1, MOST_ACTS);
        }

        boolean bringBack(Scene scene) {
            if (actCount == 0) {
                return false;
            }
            scene.copy(scenes[newest]);
            newest = (newest + MOST_ACTS - 1) % MOST_ACTS;
            actCount--;
            return true;
        }

        void keep(Scene scene, int trueOnes) {
            int row = ROW * scene.keptDays;
            if (scene.keptDays >= LAST_DAY) {
                return;
            }
            rows[row] = scene.day;
            rows[row + 1] = scene.reel.count;
            rows[row + 2] = trueOnes;
            scene.keptDays++;
        }

        int keptOf(int day, int what) {
            return rows[ROW * day + what];
        }
    }

    /** The latest image, and how one is read. */
    private static final class Picture {
        private static final int MOST_BYTES = 2 + 2 * MOST_PEOPLE + 1 + 3 * MOST_FRAMES + 1;
        private static final int PROOF_START = 193;
        private static final int PROOF_MODULUS = 251;

        final int[] bytes = new int[MOST_BYTES];
        int length;

        void write(Town town, Scene scene) {
            length = 0;
            add(scene.day / 256);
            add(scene.day % 256);
            for (int person = 0; person < town.peopleCount; person++) {
                add(scene.spots[person]);
                add(scene.watches(person) ? 1 : 0);
            }
            Reel reel = scene.reel;
            add(reel.count);
            for (int k = 0; k < reel.count; k++) {
                add(reel.steps[k]);
                add(reel.places[k]);
                add(reel.numbers[k]);
            }
            add(proof(bytes, length));
        }

        private void add(int octet) {
            if (length < MOST_BYTES) {
                bytes[length] = octet;
                length++;
            }
        }

        private static int proof(int[] bytes, int count) {
            int proof = PROOF_START;
            for (int k = 0; k < count; k++) {
                proof = (5 * proof + bytes[k]) % PROOF_MODULUS;
            }
            return proof;
        }

        /** Whether the tape is an image of this town; the scene is of use only if it is. */
        static boolean read(Tape tape, Town town, Scene into) {
            int[] bytes = tape.bytes;
            int reelAt = 2 + 2 * town.peopleCount;
            if (tape.length < reelAt + 2 || tape.length != reelAt + 2 + 3 * bytes[reelAt]
                    || bytes[tape.length - 1] != proof(bytes, tape.length - 1)) {
                return false;
            }
            into.day = 256 * bytes[0] + bytes[1];
            into.keptDays = 0;
            return into.day <= LAST_DAY && readPeople(bytes, town, into) && readReel(bytes, reelAt, town, into.reel);
        }

        private static boolean readPeople(int[] bytes, Town town, Scene into) {
            into.watchers = 0;
            for (int person = 0; person < town.peopleCount; person++) {
                int place = bytes[2 + 2 * person];
                int watches = bytes[3 + 2 * person];
                if (place >= town.placeCount || watches > 1) {
                    return false;
                }
                into.spots[person] = place;
                into.watchers |= watches << person;
            }
            return true;
        }

        private static boolean readReel(int[] bytes, int at, Town town, Reel into) {
            into.count = 0;
            if (bytes[at] > MOST_FRAMES) {
                return false;
            }
            for (int k = 0; k < bytes[at]; k++) {
                int step = bytes[at + 3 * k + 1];
                int place = bytes[at + 3 * k + 2];
                int number = bytes[at + 3 * k + 3];
                if (!isStep(step) || place >= town.placeCount || number > MOST_SHOWN
                        || into.indexOf(step, place) != NONE) {
                    return false;
                }
                into.put(step, place, number);
            }
            return true;
        }
    }

    /** What was seen, and where one can have begun by it. */
    private static final class Beginnings {
        private static final int MOST_ROWS = 16;
        private static final int ROW = 3;

        private final int[] rows = new int[MOST_ROWS * ROW];
        int rowCount;
        /** Of each place in which he may have begun how many are where behind each step. */
        private final int[][] counts = new int[MOST_PLACES][STEPS * MOST_PLACES];
        private final int[] alike = new int[MOST_PEOPLE + 1];
        int bits;
        int tellingStep;
        int tellingPlace;
        int left;

        boolean takeRows(Tape tape, Town town) {
            int[] bytes = tape.bytes;
            if (tape.length == 0 || tape.length % ROW != 0 || tape.length > MOST_ROWS * ROW) {
                return false;
            }
            for (int k = 0; k < tape.length; k += ROW) {
                if (!isStep(bytes[k]) || bytes[k + 1] >= town.placeCount) {
                    return false;
                }
            }
            System.arraycopy(bytes, 0, rows, 0, tape.length);
            rowCount = tape.length / ROW;
            return true;
        }

        void clear() {
            bits = 0;
            tellingStep = NONE;
            tellingPlace = NONE;
            left = NONE;
        }

        void weigh(int begun, Walk gone) {
            if (!isAsSeen(gone)) {
                return;
            }
            bits |= 1 << begun;
            for (int step = 1; step <= STEPS; step++) {
                for (int place = 0; place < MOST_PLACES; place++) {
                    counts[begun][MOST_PLACES * (step - 1) + place] = gone.countIn(place, step);
                }
            }
        }

        private boolean isAsSeen(Walk gone) {
            for (int k = 0; k < ROW * rowCount; k += ROW) {
                if (gone.countIn(rows[k + 1], rows[k]) != rows[k + 2]) {
                    return false;
                }
            }
            return true;
        }

        void findTelling(int places) {
            if (bits == 0) {
                return;
            }
            for (int step = 1; step <= STEPS; step++) {
                for (int place = 0; place < places; place++) {
                    int most = mostAlike(MOST_PLACES * (step - 1) + place);
                    if (left == NONE || most < left) {
                        left = most;
                        tellingStep = step;
                        tellingPlace = place;
                    }
                }
            }
        }

        private int mostAlike(int cell) {
            Arrays.fill(alike, 0);
            int most = 0;
            for (int begun = 0; begun < MOST_PLACES; begun++) {
                if ((bits >> begun & 1) == 1) {
                    int count = counts[begun][cell];
                    alike[count]++;
                    most = Math.max(most, alike[count]);
                }
            }
            return most;
        }
    }
}
