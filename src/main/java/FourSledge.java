import java.util.Arrays;
import java.util.NoSuchElementException;

/** Four men, one sledge: a COURSE, a PLAN and what follows from them. See README.md. */
public final class FourSledge {
    public static final int NONE = -1;

    /** What calls answer whose ordinary answers may themselves be below 0. */
    private static final int NO_DIFFERENCE = NONE - 100000;

    private static final int COURSE_BYTES = 900;
    private static final int PLAN_BYTES = 400;
    private static final int SENTENCE_BYTES = 200;

    private static final int CREW = 4;
    private static final int MOST_YARDS = 40;
    private static final int MOST_MEN = 12;
    private static final int MOST_BENDS = 12;
    private static final int MOST_RUNNERS = 6;
    private static final int MOST_HEIGHT = 9;
    private static final int MOST_LEAD = 99;
    private static final int MOST_NUMBER = 60;
    private static final int MOST_SEEDS = 60;
    private static final int MOST_TOUCH = 99;
    private static final int MOST_CHOICE = 6;
    private static final int MOST_UNDONE = 8;
    private static final int IMAGES = 2;
    private static final int RUNS = 4;

    private static final int FIRST_PACE = 30;
    private static final int LEAST_PACE = 10;
    private static final int MOST_PACE = 250;
    private static final int PACES = MOST_PACE - LEAST_PACE + 1;

    private static final int CLEAN = 0;
    private static final int CROWDED = 1;
    private static final int LATE = 2;

    /** All WORDS that are no NAMES, seven signs each, in the order of the numbers below. */
    private static final String WORDS =
        "yards  sledge most   ice    warm   man    bend   runner crew   jump   lead   high   on     start  or     and    not    gets   ahead  push   feet   weight number ";
    private static final int WORD_SIGNS = 7;
    private static final int WORD_COUNT = 23;
    private static final int NUMBER_SIGNS = 3;
    private static final int YARDS_WORD = 0;
    private static final int SLEDGE_WORD = 1;
    private static final int MOST_WORD = 2;
    private static final int ICE_WORD = 3;
    private static final int WARM_WORD = 4;
    private static final int MAN_WORD = 5;
    private static final int BEND_WORD = 6;
    private static final int RUNNER_WORD = 7;
    private static final int CREW_WORD = 8;
    private static final int JUMP_WORD = 9;
    private static final int LEAD_WORD = 10;
    private static final int HIGH_WORD = 11;
    private static final int ON_WORD = 12;
    private static final int START_WORD = 13;
    private static final int OR_WORD = 14;
    private static final int AND_WORD = 15;
    private static final int NOT_WORD = 16;
    private static final int GETS_WORD = 17;
    private static final int AHEAD_WORD = 18;
    private static final int PUSH_WORD = 19;
    private static final int FEET_WORD = 20;
    private static final int WEIGHT_WORD = 21;
    private static final int NUMBER_WORD = 22;

    /** The five settings of a COURSE have the numbers of their WORDS. */
    private static final int SETTINGS = 5;
    private static final int[] SETTING_LEAST = {5, 100, 300, 0, 0};
    private static final int[] SETTING_MOST = {40, 300, 900, 9, 20};
    private static final int[] SETTING_USUAL = {40, 210, 630, 2, 5};

    private static final int FAULT_TOKEN = 1;
    private static final int FAULT_NUMBER = 2;
    private static final int FAULT_NAME = 3;
    private static final int FAULT_MANY = 4;

    private final Reader tape = new Reader();
    private final Plan plan = new Plan();
    private final Plan kept = new Plan();
    private final Plan trial = new Plan();
    private final Ride ride = new Ride();
    private final Ride otherRide = new Ride();
    private final Plan[] past = new Plan[MOST_UNDONE];
    private final Image[] images = new Image[IMAGES];
    private final Advice jumpAdvice = new Advice();
    private final Advice lineAdvice = new Advice();
    private Course course = new Course(0);
    private Sentence sentence = null;
    private JumpSearch jumpSearch = null;
    private LineSearch lineSearch = null;
    private boolean keeping = false;
    private int pastNext = 0;
    private int pastCount = 0;
    private int coursesTold = 0;
    private int latestFault = 0;

    public FourSledge() {
        for (int i = 0; i < past.length; i++) {
            past[i] = new Plan();
        }
        for (int i = 0; i < images.length; i++) {
            images[i] = new Image();
        }
        plan.clear(course);
    }

    // ---- texts ----

    public int feed(int a, int b, int c, int d, int e) {
        if (!tape.hasRoom()) {
            return NONE;
        }
        tape.append(a);
        tape.append(b);
        tape.append(c);
        tape.append(d);
        tape.append(e);
        return tape.length;
    }

    public boolean end(int n) {
        if (n < 0 || n > tape.length) {
            return false;
        }
        tape.length = n;
        return true;
    }

    public int course() {
        Course told = new Course(coursesTold + 1);
        tape.open(COURSE_BYTES);
        boolean good = told.readFrom(tape);
        if (good) {
            coursesTold++;
            course = told;
            plan.clear(course);
            keeping = false;
            sentence = null;
            forgetPast();
        }
        return answerText(good, told.lines);
    }

    public int plan() {
        tape.open(PLAN_BYTES);
        boolean good = trial.readFrom(tape, course);
        if (good) {
            plan.copyFrom(trial);
            forgetPast();
        }
        return answerText(good, trial.lines);
    }

    public int fault() {
        return latestFault;
    }

    public int sentence() {
        Sentence told = new Sentence();
        tape.open(SENTENCE_BYTES);
        boolean good = told.readCond(tape, course, 1);
        if (good) {
            sentence = told;
        }
        return answerText(good, told.ones);
    }

    private int answerText(boolean good, int parts) {
        tape.length = 0;
        latestFault = good ? 0 : tape.faultKind;
        return good ? parts : -1 - tape.faultPlace;
    }

    // ---- what is told ----

    public int man(int m, int what) throws NoSuchElementException {
        if (m < 0 || m >= course.men || what < 0 || what > 4) {
            throw new NoSuchElementException("no such man or number");
        }
        if (what == 0) {
            return course.push[m];
        }
        if (what == 1) {
            return course.feet[m];
        }
        if (what == 2) {
            return course.weight[m];
        }
        int place = plan.placeOf(m);
        if (what == 3 || place == NONE) {
            return place;
        }
        return plan.yard[place];
    }

    public int bend(int b, int what) {
        if (b < 0 || b >= course.bends) {
            return NONE;
        }
        switch (what) {
            case 0:
                return course.length[b];
            case 1:
                return course.drop[b];
            case 2:
                return course.ideal[b];
            case 3:
                return course.over[b];
            case 4:
                return plan.high[b];
            default:
                return NONE;
        }
    }

    public int runner(int r, int what) {
        if (r < 0 || r >= course.runners) {
            return NONE;
        }
        switch (what) {
            case 0:
                return course.bestAt[r];
            case 1:
                return course.bad[r];
            case 2:
                return course.runnerTakes(r, plan.number);
            default:
                return NONE;
        }
    }

    public int count(int what) {
        if (what >= 0 && what < SETTINGS) {
            return course.settings[what];
        }
        switch (what) {
            case 5:
                return course.men;
            case 6:
                return course.bends;
            case 7:
                return course.runners;
            case 8:
                return plan.lead;
            case 9:
                return plan.runner;
            case 10:
                return plan.number;
            case 11:
                return plan.crewed ? 1 : 0;
            case 12:
                return tape.length;
            default:
                return NONE;
        }
    }

    // ---- start and way down by the PLAN ----

    public int start(int what) {
        if (!plan.crewed) {
            return NONE;
        }
        ride.timeInAll(course, plan);
        switch (what) {
            case 0:
                return ride.startTime;
            case 1:
                return ride.startPace;
            case 2:
                return ride.in;
            case 3:
                return ride.late;
            case 4:
                return ride.weight;
            default:
                return NONE;
        }
    }

    public int pace(int yard) {
        if (!plan.crewed || yard < 0 || yard >= course.settings[YARDS_WORD]) {
            return NONE;
        }
        ride.timeInAll(course, plan);
        return ride.paces[yard];
    }

    public int jumps(int place) {
        if (!plan.crewed || place < 0 || place >= CREW) {
            return NONE;
        }
        ride.timeInAll(course, plan);
        return ride.manner[place];
    }

    public int run(int what) {
        if (!plan.crewed) {
            return NONE;
        }
        ride.timeInAll(course, plan);
        switch (what) {
            case 0:
                return ride.total;
            case 1:
                return ride.lastPace;
            case 2:
                return ride.gone;
            case 3:
                return ride.overAt;
            default:
                return NONE;
        }
    }

    public int behind(int b) {
        if (!plan.crewed || b < 0 || b >= course.bends) {
            return NONE;
        }
        ride.timeInAll(course, plan);
        return b < ride.gone ? ride.paceBehind[b] : NONE;
    }

    public int room() {
        if (!plan.crewed) {
            return NONE;
        }
        ride.timeInAll(course, plan);
        int left = course.settings[MOST_WORD] - (ride.weight - plan.lead);
        return left < 0 ? NONE : Math.min(MOST_LEAD, left);
    }

    // ---- changes of the PLAN ----

    public boolean jump(int c, int yard) {
        if (!plan.crewed || c < 0 || c >= CREW || yard < 0 || yard >= course.settings[YARDS_WORD]
            || plan.yard[c] == yard) {
            return false;
        }
        remember();
        plan.yard[c] = yard;
        return true;
    }

    public boolean high(int b, int height) {
        if (b < 0 || b >= course.bends || height < 0 || height > MOST_HEIGHT || plan.high[b] == height) {
            return false;
        }
        remember();
        plan.high[b] = height;
        return true;
    }

    public boolean set(int what, int n) {
        switch (what) {
            case 0:
                return changeLead(n);
            case 1:
                return changeRunner(n);
            case 2:
                return changeNumber(n);
            default:
                return false;
        }
    }

    private boolean changeLead(int n) {
        if (n < 0 || n > MOST_LEAD || n == plan.lead) {
            return false;
        }
        remember();
        plan.lead = n;
        return true;
    }

    private boolean changeRunner(int n) {
        if (n < 0 || n >= course.runners || n == plan.runner) {
            return false;
        }
        remember();
        plan.runner = n;
        return true;
    }

    private boolean changeNumber(int n) {
        if (!isNumber(n) || n == plan.number) {
            return false;
        }
        remember();
        plan.number = n;
        return true;
    }

    public boolean swap(int a, int b) {
        if (!plan.crewed || a < 0 || a >= CREW || b < 0 || b >= CREW || a == b) {
            return false;
        }
        remember();
        int manOfA = plan.crew[a];
        int yardOfA = plan.yard[a];
        plan.crew[a] = plan.crew[b];
        plan.yard[a] = plan.yard[b];
        plan.crew[b] = manOfA;
        plan.yard[b] = yardOfA;
        return true;
    }

    public int undo() {
        if (pastCount == 0) {
            return NONE;
        }
        pastNext = (pastNext + MOST_UNDONE - 1) % MOST_UNDONE;
        pastCount--;
        plan.copyFrom(past[pastNext]);
        return pastCount;
    }

    public boolean take(int what) {
        if (what == 0 && lineAdvice.holdsFor(course, plan)) {
            remember();
            System.arraycopy(lineAdvice.values, 0, plan.high, 0, MOST_BENDS);
            return true;
        }
        if (what == 1 && jumpAdvice.holdsFor(course, plan)) {
            remember();
            System.arraycopy(jumpAdvice.values, 0, plan.yard, 0, CREW);
            return true;
        }
        return false;
    }

    /** The oldest PLAN makes way for the ninth: the row goes round. */
    private void remember() {
        past[pastNext].copyFrom(plan);
        pastNext = (pastNext + 1) % MOST_UNDONE;
        pastCount = Math.min(MOST_UNDONE, pastCount + 1);
    }

    private void forgetPast() {
        pastCount = 0;
    }

    // ---- searches ----

    public int best() {
        if (!plan.crewed) {
            return NONE;
        }
        JumpSearch search = jumpSearcher();
        int time = search.leastTime(course, plan, ride);
        if (time != NONE) {
            jumpAdvice.note(course, plan, search.yards, CREW);
        }
        return time;
    }

    public int when(int c) {
        return jumpAdvice.valueAt(c);
    }

    public int line() {
        if (!plan.crewed) {
            return NONE;
        }
        ride.timeInAll(course, plan);
        if (ride.weight > course.settings[MOST_WORD]) {
            return NONE;
        }
        if (lineSearch == null) {
            lineSearch = new LineSearch();
        }
        int wayDown = lineSearch.leastTime(course, plan, ride.startPace, ride.weight);
        if (wayDown == NONE) {
            return NONE;
        }
        lineAdvice.note(course, plan, lineSearch.heights, course.bends);
        return ride.startTime + wayDown;
    }

    public int height(int b) {
        return lineAdvice.valueAt(b);
    }

    public int four() {
        if (course.men < CREW || course.men > MOST_CHOICE) {
            return NONE;
        }
        JumpSearch search = jumpSearcher();
        trial.copyFrom(plan);
        int leastTime = NONE;
        int leastSet = NONE;
        for (int a = 0; a < course.men; a++) {
            for (int b = a + 1; b < course.men; b++) {
                for (int c = b + 1; c < course.men; c++) {
                    for (int d = c + 1; d < course.men; d++) {
                        trial.putCrew(a, b, c, d);
                        int time = search.leastTime(course, trial, ride);
                        if (time != NONE && (leastTime == NONE || time < leastTime)) {
                            leastTime = time;
                            leastSet = 1 << a | 1 << b | 1 << c | 1 << d;
                        }
                    }
                }
            }
        }
        return leastSet;
    }

    /** The search's rows are made when first asked for: most objects never need them. */
    private JumpSearch jumpSearcher() {
        if (jumpSearch == null) {
            jumpSearch = new JumpSearch();
        }
        return jumpSearch;
    }

    // ---- comparisons ----

    public int kilo(int n) {
        if (!plan.crewed || n < 1 || n > MOST_LEAD || plan.lead + n > MOST_LEAD) {
            return NO_DIFFERENCE;
        }
        trial.copyFrom(plan);
        trial.lead = plan.lead + n;
        return howMuchMore(otherRide.timeInAll(course, trial), ride.timeInAll(course, plan));
    }

    public int runners() {
        if (!plan.crewed) {
            return NONE;
        }
        trial.copyFrom(plan);
        int leastTime = NONE;
        int leastRunner = NONE;
        for (int r = 0; r < course.runners; r++) {
            trial.runner = r;
            int time = ride.timeInAll(course, trial);
            if (time != NONE && (leastTime == NONE || time < leastTime)) {
                leastTime = time;
                leastRunner = r;
            }
        }
        return leastRunner;
    }

    public int runs() {
        int bytes = tape.length;
        tape.length = 0;
        if (!plan.crewed || bytes != RUNS) {
            return NONE;
        }
        int sum = 0;
        for (int i = 0; i < RUNS; i++) {
            int number = tape.byteAt(i);
            int time = isNumber(number) ? timeByNumber(number) : NONE;
            if (time == NONE) {
                return NONE;
            }
            sum += time;
        }
        return sum;
    }

    public int worth(int a, int b) {
        if (!plan.crewed || !isNumber(a) || !isNumber(b)) {
            return NO_DIFFERENCE;
        }
        return howMuchMore(timeByNumber(a), timeByNumber(b));
    }

    private int timeByNumber(int number) {
        trial.copyFrom(plan);
        trial.number = number;
        return ride.timeInAll(course, trial);
    }

    public boolean keep() {
        if (!plan.crewed) {
            return false;
        }
        kept.copyFrom(plan);
        keeping = true;
        return true;
    }

    public int lost(int what) {
        if (!plan.crewed || !keeping || what < 0 || what > 3) {
            return NO_DIFFERENCE;
        }
        int time = ride.timeInAll(course, plan);
        int keptTime = otherRide.timeInAll(course, kept);
        int keptStart = otherRide.startTime;
        int keptDown = keptTime - keptStart;
        int downWithPace = otherRide.wayDown(course, kept, ride.startPace, otherRide.weight);
        if (time == NONE || keptTime == NONE || downWithPace == NONE) {
            return NO_DIFFERENCE;
        }
        int all = time - keptTime;
        int onStart = ride.startTime - keptStart;
        int byPace = downWithPace - keptDown;
        switch (what) {
            case 0:
                return onStart;
            case 1:
                return byPace;
            case 2:
                return all - onStart - byPace;
            default:
                return all;
        }
    }

    public int touch(int b, int n) {
        if (!plan.crewed || b < 0 || b >= course.bends || n < 1 || n > MOST_TOUCH) {
            return NO_DIFFERENCE;
        }
        return howMuchMore(ride.timeInAll(course, plan), otherRide.timeTouched(course, plan, b, n));
    }

    private static int howMuchMore(int time, int otherTime) {
        return time == NONE || otherTime == NONE ? NO_DIFFERENCE : otherTime - time;
    }

    private static boolean isNumber(int n) {
        return n >= 1 && n <= MOST_NUMBER;
    }

    public int drawn(int seed) {
        return plan.crewed ? ride.timeKicked(course, plan, seed) : NONE;
    }

    public int odds(int n, int seed, int t) {
        if (!plan.crewed || n < 1 || n > MOST_SEEDS) {
            return NONE;
        }
        int below = 0;
        for (int i = 0; i < n; i++) {
            int time = ride.timeKicked(course, plan, seed + i);
            if (time != NONE && time < t) {
                below++;
            }
        }
        return below;
    }

    // ---- what may be said ----

    public int said(int k) {
        if (sentence == null || k < NONE) {
            return NONE;
        }
        int in = plan.crewed ? gotIn() : 0;
        int found = 0;
        for (int m = 0; m < course.men; m++) {
            if (sentence.holdsOf(m, course, plan, in)) {
                if (found == k) {
                    return m;
                }
                found++;
            }
        }
        return k == NONE ? found : NONE;
    }

    private int gotIn() {
        ride.timeInAll(course, plan);
        return ride.in;
    }

    // ---- images ----

    public boolean image(int k) {
        if (k < 0 || k >= IMAGES) {
            return false;
        }
        Image place = images[k];
        place.course = course;
        place.plan.copyFrom(plan);
        place.kept.copyFrom(kept);
        place.keeping = keeping;
        place.sentence = sentence;
        return true;
    }

    public boolean restore(int k) {
        if (k < 0 || k >= IMAGES || images[k].course == null) {
            return false;
        }
        Image place = images[k];
        course = place.course;
        plan.copyFrom(place.plan);
        kept.copyFrom(place.kept);
        keeping = place.keeping;
        sentence = place.sentence;
        forgetPast();
        return true;
    }

    private static int bounded(int pace) {
        return Math.max(LEAST_PACE, Math.min(MOST_PACE, pace));
    }

    private static int timeFor(int length, int pace) {
        return pace < LEAST_PACE ? 0 : length * 3000 / pace;
    }

    /** The tape, and the TOKEN at which reading it stands. */
    private static final class Reader {
        private static final int MOST_BYTES = 940;
        private static final int FED_BYTES = 20;
        /** None and 26: unlike WORDS are unlike numbers. */
        private static final int LETTERS = 27;
        static final int END = 0;
        static final int NO_TOKEN = 1;
        static final int WORD = 2;
        static final int NUMBER = 3;

        final byte[] bytes = new byte[MOST_BYTES];
        int length = 0;
        /** END, NO_TOKEN, WORD, NUMBER, or a sign by its own number. */
        int kind = END;
        int place = 0;
        /** The value of a NUMBER; a WORD's number among WORDS, NONE for a NAME. */
        int value = 0;
        /** A NAME's letters as one number. */
        long name = 0;
        /** The value of the NUMBER that was taken last. */
        int number = 0;
        int faultKind = 0;
        int faultPlace = 0;
        private final long[] wordNames = new long[WORD_COUNT];
        private int at = 0;
        private int mostBytes = 0;

        Reader() {
            for (int i = 0; i < WORDS.length(); i++) {
                int sign = WORDS.charAt(i);
                int w = i / WORD_SIGNS;
                if (sign != ' ' && w < WORD_COUNT) {
                    wordNames[w] = wordNames[w] * LETTERS + sign - 'a' + 1;
                }
            }
        }

        boolean hasRoom() {
            return length + FED_BYTES <= MOST_BYTES;
        }

        void append(int four) {
            for (int shift = 24; shift >= 0 && length < MOST_BYTES; shift -= 8) {
                bytes[length] = (byte) (four >>> shift);
                length++;
            }
        }

        int byteAt(int i) {
            return i >= 0 && i < MOST_BYTES ? bytes[i] & 255 : 0;
        }

        void open(int most) {
            mostBytes = most;
            at = 0;
            advance();
        }

        void advance() {
            while (at < length && (bytes[at] == 32 || bytes[at] == 10)) {
                at++;
            }
            place = at;
            if (length > mostBytes && at >= mostBytes) {
                place = mostBytes;
                kind = NO_TOKEN;
            } else if (at >= length) {
                kind = END;
            } else if (isSign(bytes[at])) {
                kind = bytes[at];
                at++;
            } else {
                readRow();
                value = kind == WORD ? wordNamed(name) : value;
            }
        }

        /** A row too long for a WORD or NUMBER may wrap: what it adds up to is not looked at then. */
        private void readRow() {
            int letters = 0;
            int digits = 0;
            value = 0;
            name = 0;
            for (; at < length; at++) {
                int sign = bytes[at];
                if (sign >= 'a' && sign <= 'z') {
                    letters++;
                    name = name * LETTERS + sign - 'a' + 1;
                } else if (sign >= '0' && sign <= '9') {
                    digits++;
                    value = value * 10 + sign - '0';
                } else {
                    break;
                }
            }
            kind = NO_TOKEN;
            if (digits == 0 && letters > 0 && letters <= WORD_SIGNS) {
                kind = WORD;
            } else if (letters == 0 && digits > 0 && digits <= NUMBER_SIGNS) {
                kind = NUMBER;
            }
        }

        private int wordNamed(long sought) {
            for (int w = 0; w < WORD_COUNT; w++) {
                if (wordNames[w] == sought) {
                    return w;
                }
            }
            return NONE;
        }

        private static boolean isSign(int sign) {
            return sign == ';' || sign == '<' || sign == '=' || sign == '>' || sign == '(' || sign == ')';
        }

        boolean fail(int fault) {
            faultKind = fault;
            faultPlace = place;
            return false;
        }

        /** The number of the WORD here, NONE if here is none or a NAME. */
        int wordHere() {
            return kind == WORD ? value : NONE;
        }

        boolean isName() {
            return kind == WORD && value == NONE;
        }

        /** Whether here is a NUMBER whose bit is set. */
        boolean isNumberOf(int bits) {
            return kind == NUMBER && value < 32 && (bits >>> value & 1) == 1;
        }

        boolean takeSign(int sign) {
            if (kind != sign) {
                return fail(FAULT_TOKEN);
            }
            advance();
            return true;
        }

        boolean takeNumber(int least, int most) {
            if (!isNumberWithin(least, most)) {
                return false;
            }
            number = value;
            advance();
            return true;
        }

        boolean takeInto(int[] row, int i, int least, int most) {
            if (i < 0 || i >= row.length) {
                return fail(FAULT_MANY);
            }
            if (!isNumberWithin(least, most)) {
                return false;
            }
            row[i] = value;
            advance();
            return true;
        }

        private boolean isNumberWithin(int least, int most) {
            if (kind != NUMBER) {
                return fail(FAULT_TOKEN);
            }
            return value >= least && value <= most || fail(FAULT_NUMBER);
        }
    }

    /** A COURSE: never changed once it has been read, so images may share it. */
    private static final class Course {
        /** Which one it is of those that were told, for what was advised for another one. */
        final int serial;
        final int[] settings = SETTING_USUAL.clone();
        final long[] manName = new long[MOST_MEN];
        final int[] push = new int[MOST_MEN];
        final int[] feet = new int[MOST_MEN];
        final int[] weight = new int[MOST_MEN];
        final int[] length = new int[MOST_BENDS];
        final int[] drop = new int[MOST_BENDS];
        final int[] ideal = new int[MOST_BENDS];
        final int[] over = new int[MOST_BENDS];
        final long[] runnerName = new long[MOST_RUNNERS];
        final int[] bestAt = new int[MOST_RUNNERS];
        final int[] bad = new int[MOST_RUNNERS];
        int men = 0;
        int bends = 0;
        int runners = 0;
        int lines = 0;
        private int settingsTold = 0;

        Course(int serial) {
            this.serial = serial;
        }

        int manNamed(long name) {
            return indexOf(manName, men, name);
        }

        int runnerNamed(long name) {
            return indexOf(runnerName, runners, name);
        }

        private static int indexOf(long[] names, int count, long name) {
            for (int i = 0; i < count && i < names.length; i++) {
                if (names[i] == name) {
                    return i;
                }
            }
            return NONE;
        }

        int runnerTakes(int r, int number) {
            if (r < 0 || r >= runners) {
                return 0;
            }
            int degrees = settings[WARM_WORD] + number / 3;
            return bad[r] * Math.abs(degrees - bestAt[r]) / 4;
        }

        /** What a BEND changes PACE by, whatever the HEIGHTS are. */
        int steadyChange(int b, Plan plan, int weightDown) {
            return drop[b] * weightDown / 100 - settings[ICE_WORD] - plan.number / 5
                - runnerTakes(plan.runner, plan.number);
        }

        int heightCost(int b, int height, int heightAhead) {
            return 3 * Math.abs(height - ideal[b]) + 2 * Math.abs(height - heightAhead);
        }

        boolean turnsOver(int b, int pace, int height) {
            return pace * height > 20 * over[b];
        }

        boolean readFrom(Reader reader) {
            for (lines = 0; lines < COURSE_BYTES && reader.kind != Reader.END; lines++) {
                if (!readLine(reader) || !reader.takeSign(';')) {
                    return false;
                }
            }
            return true;
        }

        private boolean readLine(Reader reader) {
            switch (reader.wordHere()) {
                case YARDS_WORD:
                case SLEDGE_WORD:
                case MOST_WORD:
                case ICE_WORD:
                case WARM_WORD:
                    return readSetting(reader, reader.wordHere());
                case MAN_WORD:
                    return readMan(reader);
                case BEND_WORD:
                    return readBend(reader);
                case RUNNER_WORD:
                    return readRunner(reader);
                default:
                    return reader.fail(FAULT_TOKEN);
            }
        }

        private boolean readSetting(Reader reader, int which) {
            if ((settingsTold >> which & 1) != 0) {
                return reader.fail(FAULT_NAME);
            }
            settingsTold |= 1 << which;
            reader.advance();
            return reader.takeInto(settings, which, SETTING_LEAST[which], SETTING_MOST[which]);
        }

        private boolean readMan(Reader reader) {
            if (men >= MOST_MEN) {
                return reader.fail(FAULT_MANY);
            }
            reader.advance();
            boolean good = readName(reader, manName, men)
                && reader.takeInto(push, men, 1, 9)
                && reader.takeInto(feet, men, 1, 9)
                && reader.takeInto(weight, men, 50, 150);
            men += good ? 1 : 0;
            return good;
        }

        private boolean readBend(Reader reader) {
            if (bends >= MOST_BENDS) {
                return reader.fail(FAULT_MANY);
            }
            reader.advance();
            boolean good = reader.takeInto(length, bends, 1, 9)
                && reader.takeInto(drop, bends, 0, 9)
                && reader.takeInto(ideal, bends, 0, 9)
                && reader.takeInto(over, bends, 1, 99);
            bends += good ? 1 : 0;
            return good;
        }

        private boolean readRunner(Reader reader) {
            if (runners >= MOST_RUNNERS) {
                return reader.fail(FAULT_MANY);
            }
            reader.advance();
            boolean good = readName(reader, runnerName, runners)
                && reader.takeInto(bestAt, runners, 0, 20)
                && reader.takeInto(bad, runners, 0, 9);
            runners += good ? 1 : 0;
            return good;
        }

        private boolean readName(Reader reader, long[] names, int i) {
            if (!reader.isName()) {
                return reader.fail(FAULT_TOKEN);
            }
            if (manNamed(reader.name) != NONE || runnerNamed(reader.name) != NONE) {
                return reader.fail(FAULT_NAME);
            }
            names[i] = reader.name;
            reader.advance();
            return true;
        }
    }

    /** A PLAN for a COURSE; without a crew, crew and yard mean nothing. */
    private static final class Plan {
        final int[] crew = new int[CREW];
        final int[] yard = new int[CREW];
        final int[] high = new int[MOST_BENDS];
        boolean crewed = false;
        int lead = 0;
        int runner = NONE;
        int number = 1;
        int lines = 0;
        /** What was told once already: single LINES by their WORDS, jumps by places, HEIGHTS by BENDS. */
        private int linesTold = 0;
        private int jumpsTold = 0;
        private int heightsTold = 0;

        void clear(Course course) {
            crewed = false;
            lead = 0;
            runner = course.runners > 0 ? 0 : NONE;
            number = 1;
            Arrays.fill(crew, 0);
            Arrays.fill(yard, course.settings[YARDS_WORD] - 1);
            System.arraycopy(course.ideal, 0, high, 0, MOST_BENDS);
        }

        void copyFrom(Plan other) {
            crewed = other.crewed;
            lead = other.lead;
            runner = other.runner;
            number = other.number;
            System.arraycopy(other.crew, 0, crew, 0, CREW);
            System.arraycopy(other.yard, 0, yard, 0, CREW);
            System.arraycopy(other.high, 0, high, 0, MOST_BENDS);
        }

        void putCrew(int a, int b, int c, int d) {
            crewed = true;
            crew[0] = a;
            crew[1] = b;
            crew[2] = c;
            crew[3] = d;
        }

        int placeOf(int man) {
            return crewed ? placeAmong(man, CREW) : NONE;
        }

        private int placeAmong(int man, int places) {
            for (int place = 0; place < places && place < CREW; place++) {
                if (crew[place] == man) {
                    return place;
                }
            }
            return NONE;
        }

        boolean readFrom(Reader reader, Course course) {
            clear(course);
            linesTold = 0;
            jumpsTold = 0;
            heightsTold = 0;
            for (lines = 0; lines < PLAN_BYTES && reader.kind != Reader.END; lines++) {
                if (!readLine(reader, course) || !reader.takeSign(';')) {
                    return false;
                }
            }
            return true;
        }

        private boolean readLine(Reader reader, Course course) {
            int word = reader.wordHere();
            if (word < CREW_WORD || word > START_WORD) {
                return reader.fail(FAULT_TOKEN);
            }
            if ((linesTold >> word & 1) != 0) {
                return reader.fail(FAULT_NAME);
            }
            if (word != JUMP_WORD && word != HIGH_WORD) {
                linesTold |= 1 << word;
            }
            reader.advance();
            switch (word) {
                case CREW_WORD:
                    return readCrew(reader, course);
                case JUMP_WORD:
                    return readJump(reader, course);
                case LEAD_WORD:
                    return readLead(reader);
                case HIGH_WORD:
                    return readHigh(reader, course);
                case ON_WORD:
                    return readOn(reader, course);
                default:
                    return readStart(reader);
            }
        }

        private boolean readCrew(Reader reader, Course course) {
            for (int place = 0; place < CREW; place++) {
                if (!reader.isName()) {
                    return reader.fail(FAULT_TOKEN);
                }
                int man = course.manNamed(reader.name);
                if (man == NONE || placeAmong(man, place) != NONE) {
                    return reader.fail(FAULT_NAME);
                }
                crew[place] = man;
                reader.advance();
            }
            crewed = true;
            return true;
        }

        private boolean readJump(Reader reader, Course course) {
            if (!reader.isName()) {
                return reader.fail(FAULT_TOKEN);
            }
            int man = course.manNamed(reader.name);
            int place = man == NONE ? NONE : placeOf(man);
            if (place == NONE || (jumpsTold >> place & 1) != 0) {
                return reader.fail(FAULT_NAME);
            }
            jumpsTold |= 1 << place;
            reader.advance();
            if (!reader.takeNumber(0, course.settings[YARDS_WORD] - 1)) {
                return false;
            }
            yard[place] = reader.number;
            return true;
        }

        private boolean readLead(Reader reader) {
            if (!reader.takeNumber(0, MOST_LEAD)) {
                return false;
            }
            lead = reader.number;
            return true;
        }

        private boolean readHigh(Reader reader, Course course) {
            if (reader.isNumberOf(heightsTold)) {
                return reader.fail(FAULT_NAME);
            }
            if (!reader.takeNumber(0, course.bends - 1)) {
                return false;
            }
            int b = reader.number;
            heightsTold |= 1 << b;
            if (!reader.takeNumber(0, MOST_HEIGHT)) {
                return false;
            }
            high[b] = reader.number;
            return true;
        }

        private boolean readOn(Reader reader, Course course) {
            if (!reader.isName()) {
                return reader.fail(FAULT_TOKEN);
            }
            int told = course.runnerNamed(reader.name);
            if (told == NONE) {
                return reader.fail(FAULT_NAME);
            }
            runner = told;
            reader.advance();
            return true;
        }

        private boolean readStart(Reader reader) {
            if (!reader.takeNumber(1, MOST_NUMBER)) {
                return false;
            }
            number = reader.number;
            return true;
        }
    }

    /** A SENTENCE as steps, each ONE behind those that it is made of; never changed once read. */
    private static final class Sentence {
        private static final int MOST_ONES = 20;
        private static final int MOST_DEPTH = 8;
        /** As many as ONES, and one 'and' or 'or' less than that between them. */
        private static final int MOST_STEPS = 2 * MOST_ONES;

        private final int[] step = new int[MOST_STEPS];
        private final int[] sign = new int[MOST_STEPS];
        private final int[] value = new int[MOST_STEPS];
        private int steps = 0;
        int ones = 0;

        /** All of the text at depth 1; deeper, what stands in brackets. */
        boolean readCond(Reader reader, Course course, int depth) {
            if (!readAll(reader, course, depth)) {
                return false;
            }
            for (int i = 0; i < SENTENCE_BYTES && reader.wordHere() == OR_WORD; i++) {
                reader.advance();
                if (!readAll(reader, course, depth)) {
                    return false;
                }
                addStep(OR_WORD, 0, 0);
            }
            return depth > 1 || reader.kind == Reader.END || reader.fail(FAULT_TOKEN);
        }

        private boolean readAll(Reader reader, Course course, int depth) {
            if (!readOne(reader, course, depth)) {
                return false;
            }
            for (int i = 0; i < SENTENCE_BYTES && reader.wordHere() == AND_WORD; i++) {
                reader.advance();
                if (!readOne(reader, course, depth)) {
                    return false;
                }
                addStep(AND_WORD, 0, 0);
            }
            return true;
        }

        private boolean readOne(Reader reader, Course course, int depth) {
            boolean bracket = reader.kind == '(';
            int word = reader.wordHere();
            if (!bracket && !beginsOne(word)) {
                return reader.fail(FAULT_TOKEN);
            }
            if (ones >= MOST_ONES || depth > MOST_DEPTH) {
                return reader.fail(FAULT_MANY);
            }
            ones++;
            reader.advance();
            if (bracket) {
                return readCond(reader, course, depth + 1) && reader.takeSign(')');
            }
            if (word == NOT_WORD) {
                return readOne(reader, course, depth + 1) && addStep(NOT_WORD, 0, 0);
            }
            if (word == AHEAD_WORD) {
                return readAhead(reader, course);
            }
            if (word >= PUSH_WORD) {
                return readCompared(reader, word);
            }
            return addStep(word, 0, 0);
        }

        private static boolean beginsOne(int word) {
            return word == CREW_WORD || word >= NOT_WORD;
        }

        private boolean readAhead(Reader reader, Course course) {
            if (!reader.isName()) {
                return reader.fail(FAULT_TOKEN);
            }
            int man = course.manNamed(reader.name);
            if (man == NONE) {
                return reader.fail(FAULT_NAME);
            }
            reader.advance();
            return addStep(AHEAD_WORD, 0, man);
        }

        private boolean readCompared(Reader reader, int word) {
            int told = reader.kind;
            if (told != '<' && told != '=' && told != '>') {
                return reader.fail(FAULT_TOKEN);
            }
            reader.advance();
            return reader.takeNumber(0, 999) && addStep(word, told, reader.number);
        }

        private boolean addStep(int what, int signTold, int valueTold) {
            if (steps < MOST_STEPS) {
                step[steps] = what;
                sign[steps] = signTold;
                value[steps] = valueTold;
                steps++;
            }
            return true;
        }

        /** The bits of truths are the pile: at most 20 ONES lie on it. */
        boolean holdsOf(int man, Course course, Plan plan, int in) {
            int truths = 0;
            for (int i = 0; i < steps; i++) {
                int top = truths & 1;
                int below = truths >> 1;
                if (step[i] == NOT_WORD) {
                    truths ^= 1;
                } else if (step[i] == AND_WORD) {
                    truths = top == 1 ? below : below & ~1;
                } else if (step[i] == OR_WORD) {
                    truths = below | top;
                } else {
                    truths = truths << 1 | (isTrue(i, man, course, plan, in) ? 1 : 0);
                }
            }
            return (truths & 1) == 1;
        }

        private boolean isTrue(int i, int man, Course course, Plan plan, int in) {
            int place = plan.placeOf(man);
            switch (step[i]) {
                case CREW_WORD:
                    return place != NONE;
                case GETS_WORD:
                    return place != NONE && (in >> place & 1) == 1;
                case AHEAD_WORD:
                    int other = plan.placeOf(value[i]);
                    return place != NONE && other != NONE && plan.yard[place] < plan.yard[other];
                case PUSH_WORD:
                    return compares(course.push[man], i);
                case FEET_WORD:
                    return compares(course.feet[man], i);
                case WEIGHT_WORD:
                    return compares(course.weight[man], i);
                case NUMBER_WORD:
                    return compares(man, i);
                default:
                    return false;
            }
        }

        private boolean compares(int n, int i) {
            if (sign[i] == '<') {
                return n < value[i];
            }
            return sign[i] == '>' ? n > value[i] : n == value[i];
        }
    }

    /** One run by a PLAN with a crew: to the line, then down. */
    private static final class Ride {
        final int[] paces = new int[MOST_YARDS];
        final int[] manner = new int[CREW];
        final int[] paceBehind = new int[MOST_BENDS];
        int startTime = 0;
        int startPace = 0;
        int in = 0;
        int late = 0;
        int weight = 0;
        int total = NONE;
        int lastPace = 0;
        int gone = 0;
        int overAt = NONE;
        private int weightIn = 0;
        private int latestYardIn = 0;
        private boolean kicks = false;
        private int seed = 0;
        private int touchedBend = NONE;
        private int touchedBy = 0;

        int timeInAll(Course course, Plan plan) {
            toLine(course, plan);
            int down = NONE;
            if (weight <= course.settings[MOST_WORD]) {
                down = wayDown(course, plan, startPace, weight);
            } else {
                standAtLine(startPace);
            }
            total = down == NONE ? NONE : startTime + down;
            return total;
        }

        int timeKicked(Course course, Plan plan, int firstSeed) {
            kicks = true;
            seed = firstSeed;
            int time = timeInAll(course, plan);
            kicks = false;
            return time;
        }

        int timeTouched(Course course, Plan plan, int b, int by) {
            touchedBend = b;
            touchedBy = by;
            int time = timeInAll(course, plan);
            touchedBend = NONE;
            return time;
        }

        private void toLine(Course course, Plan plan) {
            int pace = FIRST_PACE;
            startTime = 0;
            in = 0;
            late = 0;
            weightIn = 0;
            // Two YARDS ahead of the first, so that nobody crowds the first one.
            latestYardIn = -2;
            for (int yard = 0; yard < course.settings[YARDS_WORD] && yard < MOST_YARDS; yard++) {
                pace = bounded(pace + pushed(course, plan, pace) - 4 - weightIn / 100);
                pace = behindJumps(course, plan, yard, pace);
                startTime += timeFor(1, pace);
                paces[yard] = pace;
            }
            startPace = pace;
            weight = course.settings[SLEDGE_WORD] + plan.lead + weightIn;
        }

        private int pushed(Course course, Plan plan, int pace) {
            int sum = 0;
            for (int place = 0; place < CREW; place++) {
                int man = plan.crew[place];
                if (((in | late) >> place & 1) == 0 && pace < 12 * course.feet[man]) {
                    sum += course.push[man];
                }
            }
            return sum;
        }

        private int behindJumps(Course course, Plan plan, int yard, int paceAhead) {
            int pace = paceAhead;
            for (int place = 0; place < CREW; place++) {
                if (plan.yard[place] != yard) {
                    continue;
                }
                int man = plan.crew[place];
                if (12 * course.feet[man] + 20 < pace) {
                    late |= 1 << place;
                    manner[place] = LATE;
                    continue;
                }
                boolean crowded = latestYardIn >= yard - 1;
                manner[place] = crowded ? CROWDED : CLEAN;
                pace = bounded(pace - (crowded ? 6 : 2) - (drawsKick() ? 10 : 0));
                in |= 1 << place;
                weightIn += course.weight[man];
                latestYardIn = yard;
            }
            return pace;
        }

        private boolean drawsKick() {
            if (!kicks) {
                return false;
            }
            seed = seed * 1103515245 + 12345;
            return (seed >>> 8) % 8 == 0;
        }

        private void standAtLine(int paceAtLine) {
            lastPace = paceAtLine;
            gone = 0;
            overAt = NONE;
        }

        /** TIME from the line down, NONE if it turns OVER. */
        int wayDown(Course course, Plan plan, int paceAtLine, int weightDown) {
            int pace = paceAtLine;
            int time = 0;
            int heightAhead = 0;
            standAtLine(paceAtLine);
            for (int b = 0; b < course.bends; b++) {
                int height = plan.high[b];
                pace = bounded(pace + course.steadyChange(b, plan, weightDown)
                    - course.heightCost(b, height, heightAhead));
                lastPace = pace;
                if (course.turnsOver(b, pace, height)) {
                    overAt = b;
                    return NONE;
                }
                if (b == touchedBend) {
                    pace = Math.max(LEAST_PACE, pace - touchedBy);
                }
                time += timeFor(course.length[b], pace);
                paceBehind[b] = pace;
                heightAhead = height;
                gone++;
            }
            return time;
        }
    }

    /**
     * BEST JUMPS, YARD by YARD. What is yet to come depends on who is in, whether one got in in
     * the YARD ahead, and PACE alone; of all ways into one such state only the best goes on.
     * A way is one number: TIME high, and below it the four jumps, so that of like TIMES the
     * first way is the lesser number.
     */
    private static final class JumpSearch {
        private static final int SLOTS = 32;
        private static final int STATES = SLOTS * PACES;
        private static final int ALL_IN = 15;
        private static final long UNSEEN = 1L << 62;

        final int[] yards = new int[CREW];
        private final int[] push = new int[CREW];
        private final int[] reach = new int[CREW];
        private final int[] drag = new int[ALL_IN + 1];
        private long[] ways = new long[STATES];
        private long[] nextWays = new long[STATES];
        private int[] states = new int[STATES];
        private int[] nextStates = new int[STATES];
        private int stateCount = 0;
        private int nextCount = 0;

        JumpSearch() {
            Arrays.fill(ways, UNSEEN);
            Arrays.fill(nextWays, UNSEEN);
        }

        /** TIME in all by BEST JUMPS of the PLAN's crew, NONE if there are none; yards has them. */
        int leastTime(Course course, Plan plan, Ride ride) {
            int weight = course.settings[SLEDGE_WORD] + plan.lead + prepare(course, plan);
            if (weight > course.settings[MOST_WORD]) {
                return NONE;
            }
            int yardCount = course.settings[YARDS_WORD];
            reachState(0, 0, FIRST_PACE, 0);
            turnOverRows();
            for (int yard = 0; yard < yardCount && yard < MOST_YARDS; yard++) {
                for (int i = 0; i < stateCount; i++) {
                    goOn(states[i], yard, yardCount - 1 - yard);
                }
                turnOverRows();
            }
            long least = leastWayDown(course, plan, ride, weight);
            if (least == UNSEEN) {
                return NONE;
            }
            tellYards(least);
            return (int) (least >> 32);
        }

        /** The WEIGHT of the four. */
        private int prepare(Course course, Plan plan) {
            for (int place = 0; place < CREW; place++) {
                push[place] = course.push[plan.crew[place]];
                reach[place] = 12 * course.feet[plan.crew[place]];
            }
            int weight = 0;
            for (int in = 0; in <= ALL_IN; in++) {
                weight = 0;
                for (int place = 0; place < CREW; place++) {
                    weight += (in >> place & 1) * course.weight[plan.crew[place]];
                }
                drag[in] = 4 + weight / 100;
            }
            return weight;
        }

        private void goOn(int state, int yard, int yardsLeft) {
            long way = ways[state];
            int in = state / PACES >> 1;
            boolean crowded = (state / PACES & 1) == 1;
            int paceAhead = state % PACES + LEAST_PACE;
            int pace = bounded(paceAhead + pushed(in, paceAhead) - drag[in]);
            int out = CREW - Integer.bitCount(in);
            if (out <= yardsLeft) {
                reachState(in, 0, pace, way + ((long) timeFor(1, pace) << 32));
            }
            for (int place = 0; place < CREW; place++) {
                if ((in >> place & 1) == 0 && pace <= reach[place] + 20) {
                    int behind = bounded(pace - (crowded ? 6 : 2));
                    long jump = (long) ((MOST_YARDS - 1 - yard) * CREW + place) << 8 * (out - 1);
                    reachState(in | 1 << place, 1, behind, way + ((long) timeFor(1, behind) << 32) + jump);
                }
            }
        }

        private int pushed(int in, int pace) {
            int sum = 0;
            for (int place = 0; place < CREW; place++) {
                if ((in >> place & 1) == 0 && pace < reach[place]) {
                    sum += push[place];
                }
            }
            return sum;
        }

        private void reachState(int in, int justIn, int pace, long way) {
            int state = (in << 1 | justIn) * PACES + pace - LEAST_PACE;
            if (nextWays[state] == UNSEEN && nextCount < STATES) {
                nextStates[nextCount] = state;
                nextCount++;
            }
            nextWays[state] = Math.min(nextWays[state], way);
        }

        /** Only what was reached is wiped: wiping all would cost more than the search. */
        private void turnOverRows() {
            for (int i = 0; i < stateCount; i++) {
                ways[states[i]] = UNSEEN;
            }
            long[] spareWays = ways;
            int[] spareStates = states;
            ways = nextWays;
            states = nextStates;
            stateCount = nextCount;
            nextWays = spareWays;
            nextStates = spareStates;
            nextCount = 0;
        }

        private long leastWayDown(Course course, Plan plan, Ride ride, int weight) {
            long least = UNSEEN;
            for (int i = 0; i < stateCount; i++) {
                if (states[i] / PACES >> 1 == ALL_IN) {
                    int down = ride.wayDown(course, plan, states[i] % PACES + LEAST_PACE, weight);
                    if (down != NONE) {
                        least = Math.min(least, ways[states[i]] + ((long) down << 32));
                    }
                }
            }
            return least;
        }

        private void tellYards(long way) {
            for (int i = 0; i < CREW; i++) {
                int jump = (int) (way >> 8 * i) & 255;
                yards[jump % CREW] = MOST_YARDS - 1 - jump / CREW;
            }
        }
    }

    /** BEST LINE, BEND by BEND, as JumpSearch does it: a state is PACE and HEIGHT. */
    private static final class LineSearch {
        private static final int HEIGHTS = MOST_HEIGHT + 1;
        private static final int STATES = PACES * HEIGHTS;
        private static final long UNSEEN = 1L << 62;
        /** One of TIME, above a digit for each of twelve BENDS. */
        private static final long ONE_OF_TIME = 1000000000000L;

        final int[] heights = new int[MOST_BENDS];
        private long[] ways = new long[STATES];
        private long[] nextWays = new long[STATES];

        /** TIME from the line down, NONE if it always turns OVER; heights has them. */
        int leastTime(Course course, Plan plan, int startPace, int weight) {
            Arrays.fill(ways, UNSEEN);
            ways[(startPace - LEAST_PACE) * HEIGHTS] = 0;
            long digit = ONE_OF_TIME / 10;
            for (int b = 0; b < course.bends; b++) {
                Arrays.fill(nextWays, UNSEEN);
                int steady = course.steadyChange(b, plan, weight);
                for (int state = 0; state < STATES; state++) {
                    if (ways[state] != UNSEEN) {
                        goOn(course, b, state, steady, digit);
                    }
                }
                long[] spare = ways;
                ways = nextWays;
                nextWays = spare;
                digit /= 10;
            }
            long least = UNSEEN;
            for (int state = 0; state < STATES; state++) {
                least = Math.min(least, ways[state]);
            }
            if (least == UNSEEN) {
                return NONE;
            }
            tellHeights(least % ONE_OF_TIME);
            return (int) (least / ONE_OF_TIME);
        }

        private void goOn(Course course, int b, int state, int steady, long digit) {
            int pace = state / HEIGHTS + LEAST_PACE + steady;
            int heightAhead = state % HEIGHTS;
            for (int height = 0; height < HEIGHTS; height++) {
                int behind = bounded(pace - course.heightCost(b, height, heightAhead));
                if (!course.turnsOver(b, behind, height)) {
                    int next = (behind - LEAST_PACE) * HEIGHTS + height;
                    long way = ways[state] + timeFor(course.length[b], behind) * ONE_OF_TIME + height * digit;
                    nextWays[next] = Math.min(nextWays[next], way);
                }
            }
        }

        private void tellHeights(long digits) {
            long rest = digits;
            for (int b = MOST_BENDS - 1; b >= 0; b--) {
                heights[b] = (int) (rest % 10);
                rest /= 10;
            }
        }
    }

    /** What best() or line() told last, and of which COURSE and crew. */
    private static final class Advice {
        final int[] values = new int[MOST_BENDS];
        private final int[] crew = new int[CREW];
        private int size = 0;
        private boolean told = false;
        private int serial = 0;

        void note(Course course, Plan plan, int[] advised, int count) {
            told = true;
            serial = course.serial;
            size = count;
            System.arraycopy(plan.crew, 0, crew, 0, CREW);
            for (int i = 0; i < values.length && i < advised.length; i++) {
                values[i] = advised[i];
            }
        }

        int valueAt(int i) {
            return told && i >= 0 && i < size && i < values.length ? values[i] : NONE;
        }

        boolean holdsFor(Course course, Plan plan) {
            boolean same = told && plan.crewed && serial == course.serial;
            for (int place = 0; place < CREW; place++) {
                same = same && crew[place] == plan.crew[place];
            }
            return same;
        }
    }

    /** What image() keeps; nothing yet, while it has no COURSE. */
    private static final class Image {
        final Plan plan = new Plan();
        final Plan kept = new Plan();
        Course course = null;
        Sentence sentence = null;
        boolean keeping = false;
    }
}
