import java.util.ArrayDeque;
import java.util.ArrayList;
import java.util.Arrays;
import java.util.Deque;
import java.util.HashMap;
import java.util.LinkedHashMap;
import java.util.List;
import java.util.Map;
import java.util.NoSuchElementException;
import java.util.Set;

/** The document again, written as plainly as can be and unlike FourSledge, to compare answers with. */
final class Model {
    static final int NONE = -1;
    static final int NO = -100001;
    static final Set<String> RESERVED = Set.of("yards", "sledge", "most", "ice", "warm", "man", "bend", "runner",
        "crew", "jump", "lead", "high", "on", "start", "or", "and", "not", "gets", "ahead", "push", "feet",
        "weight", "number");

    /** A FAULT while reading. */
    static final class Fault extends RuntimeException {
        private static final long serialVersionUID = 1L;
        final int kind;
        final int place;

        Fault(int kind, int place) {
            super(null, null, false, false);
            this.kind = kind;
            this.place = place;
        }
    }

    record Token(String text, int place, char sort) { }

    record Man(String name, int push, int feet, int weight) { }

    record Bend(int length, int drop, int line, int over) { }

    record Runner(String name, int best, int bad) { }

    static final class CourseText {
        final Map<String, Integer> settings = new LinkedHashMap<>();
        final List<Man> men = new ArrayList<>();
        final List<Bend> bends = new ArrayList<>();
        final List<Runner> runners = new ArrayList<>();
        final int serial;

        CourseText(int serial) {
            this.serial = serial;
        }

        int setting(String name) {
            Integer told = settings.get(name);
            if (told != null) {
                return told;
            }
            return switch (name) {
                case "yards" -> 40;
                case "sledge" -> 210;
                case "most" -> 630;
                case "ice" -> 2;
                default -> 5;
            };
        }

        int man(String name) {
            for (int i = 0; i < men.size(); i++) {
                if (men.get(i).name.equals(name)) {
                    return i;
                }
            }
            return NONE;
        }

        int runner(String name) {
            for (int i = 0; i < runners.size(); i++) {
                if (runners.get(i).name.equals(name)) {
                    return i;
                }
            }
            return NONE;
        }
    }

    /** A PLAN. */
    static final class PlanText {
        List<Integer> crew = null;
        Map<Integer, Integer> jumps = new HashMap<>(); // by MAN
        Map<Integer, Integer> heights = new HashMap<>();
        int lead = 0;
        int runner = NONE;
        int number = 1;

        PlanText copy() {
            PlanText other = new PlanText();
            other.crew = crew == null ? null : new ArrayList<>(crew);
            other.jumps = new HashMap<>(jumps);
            other.heights = new HashMap<>(heights);
            other.lead = lead;
            other.runner = runner;
            other.number = number;
            return other;
        }
    }

    interface Cond {
        boolean of(int man);
    }

    byte[] tape = new byte[0];
    CourseText course = new CourseText(0);
    PlanText plan = new PlanText();
    PlanText kept = null;
    Cond sentence = null;
    int serials = 0;
    int latestFault = 0;
    final Deque<PlanText> past = new ArrayDeque<>();
    List<Integer> when = null;
    List<Integer> whenCrew;
    int whenSerial;
    List<Integer> heights = null;
    List<Integer> heightsCrew;
    int heightsSerial;
    final Object[][] images = new Object[2][];

    // ---- texts ----

    int feed(int a, int b, int c, int d, int e) {
        if (tape.length + 20 > 940) {
            return NONE;
        }
        java.nio.ByteBuffer more = java.nio.ByteBuffer.allocate(tape.length + 20);
        more.put(tape).putInt(a).putInt(b).putInt(c).putInt(d).putInt(e);
        tape = more.array();
        return tape.length;
    }

    boolean end(int n) {
        if (n < 0 || n > tape.length) {
            return false;
        }
        tape = Arrays.copyOf(tape, n);
        return true;
    }

    /** All TOKENS; the last one is the end, or where no TOKEN is, or one byte too many. */
    static List<Token> tokens(byte[] tape, int most) {
        String text = new String(tape, java.nio.charset.StandardCharsets.ISO_8859_1);
        List<Token> found = new ArrayList<>();
        java.util.regex.Matcher m = java.util.regex.Pattern.compile("[a-z0-9]+|[^ \n]").matcher(text);
        while (m.find()) {
            if (text.length() > most && m.start() >= most) {
                break;
            }
            String t = m.group();
            char sort = t.matches("[a-z]{1,7}") ? 'w' : t.matches("[0-9]{1,3}") ? 'n'
                : t.matches("[;<=>()]") ? t.charAt(0) : '?';
            found.add(new Token(t, m.start(), sort));
        }
        if (text.length() > most) {
            found.add(new Token("", most, '?'));
        } else {
            found.add(new Token("", text.length(), '$'));
        }
        return found;
    }

    List<Token> reading;
    int at;

    Token peek() {
        return reading.get(at);
    }

    Token pop(char sort) {
        Token t = peek();
        if (t.sort != sort) {
            throw new Fault(1, t.place);
        }
        at++;
        return t;
    }

    int number(int least, int most) {
        Token t = pop('n');
        int n = Integer.parseInt(t.text);
        if (n < least || n > most) {
            throw new Fault(2, t.place);
        }
        return n;
    }

    Token name() {
        Token t = pop('w');
        if (RESERVED.contains(t.text)) {
            throw new Fault(1, t.place);
        }
        return t;
    }

    int told(java.util.function.IntSupplier reader, int most) {
        reading = tokens(tape, most);
        at = 0;
        tape = new byte[0];
        try {
            int n = reader.getAsInt();
            latestFault = 0;
            return n;
        } catch (Fault f) {
            latestFault = f.kind;
            return -1 - f.place;
        }
    }

    int course() {
        return told(this::readCourse, 900);
    }

    int readCourse() {
        CourseText c = new CourseText(serials + 1);
        int lines = 0;
        while (peek().sort != '$') {
            Token t = pop('w');
            switch (t.text) {
                case "yards", "sledge", "most", "ice", "warm" -> {
                    if (c.settings.containsKey(t.text)) {
                        throw new Fault(3, t.place);
                    }
                    int[] bounds = switch (t.text) {
                        case "yards" -> new int[] {5, 40};
                        case "sledge" -> new int[] {100, 300};
                        case "most" -> new int[] {300, 900};
                        case "ice" -> new int[] {0, 9};
                        default -> new int[] {0, 20};
                    };
                    c.settings.put(t.text, number(bounds[0], bounds[1]));
                }
                case "man" -> {
                    if (c.men.size() == 12) {
                        throw new Fault(4, t.place);
                    }
                    c.men.add(new Man(newName(c), number(1, 9), number(1, 9), number(50, 150)));
                }
                case "bend" -> {
                    if (c.bends.size() == 12) {
                        throw new Fault(4, t.place);
                    }
                    c.bends.add(new Bend(number(1, 9), number(0, 9), number(0, 9), number(1, 99)));
                }
                case "runner" -> {
                    if (c.runners.size() == 6) {
                        throw new Fault(4, t.place);
                    }
                    c.runners.add(new Runner(newName(c), number(0, 20), number(0, 9)));
                }
                default -> throw new Fault(1, t.place);
            }
            pop(';');
            lines++;
        }
        serials++;
        course = c;
        plan = emptyPlan();
        kept = null;
        sentence = null;
        past.clear();
        return lines;
    }

    String newName(CourseText c) {
        Token t = name();
        if (c.man(t.text) != NONE || c.runner(t.text) != NONE) {
            throw new Fault(3, t.place);
        }
        return t.text;
    }

    PlanText emptyPlan() {
        PlanText p = new PlanText();
        p.runner = course.runners.isEmpty() ? NONE : 0;
        return p;
    }

    int plan() {
        return told(this::readPlan, 400);
    }

    int readPlan() {
        PlanText p = emptyPlan();
        Set<String> once = new java.util.HashSet<>();
        int lines = 0;
        while (peek().sort != '$') {
            Token t = pop('w');
            boolean single = List.of("crew", "lead", "on", "start").contains(t.text);
            if (single && !once.add(t.text)) {
                throw new Fault(3, t.place);
            }
            switch (t.text) {
                case "crew" -> {
                    List<Integer> crew = new ArrayList<>();
                    for (int i = 0; i < 4; i++) {
                        Token n = name();
                        int m = course.man(n.text);
                        if (m == NONE || crew.contains(m)) {
                            throw new Fault(3, n.place);
                        }
                        crew.add(m);
                    }
                    p.crew = crew;
                }
                case "jump" -> {
                    Token n = name();
                    int m = course.man(n.text);
                    if (m == NONE || p.crew == null || !p.crew.contains(m) || p.jumps.containsKey(m)) {
                        throw new Fault(3, n.place);
                    }
                    p.jumps.put(m, number(0, course.setting("yards") - 1));
                }
                case "lead" -> p.lead = number(0, 99);
                case "high" -> {
                    Token bend = peek();
                    int b = number(0, course.bends.size() - 1);
                    if (p.heights.containsKey(b)) {
                        throw new Fault(3, bend.place);
                    }
                    p.heights.put(b, number(0, 9));
                }
                case "on" -> {
                    Token n = name();
                    p.runner = course.runner(n.text);
                    if (p.runner == NONE) {
                        throw new Fault(3, n.place);
                    }
                }
                case "start" -> p.number = number(1, 60);
                default -> throw new Fault(1, t.place);
            }
            pop(';');
            lines++;
        }
        plan = p;
        past.clear();
        return lines;
    }

    int ones;

    int sentence() {
        return told(() -> {
            ones = 0;
            Cond c = cond(0);
            pop('$');
            sentence = c;
            return ones;
        }, 200);
    }

    boolean nextIs(String word) {
        return peek().sort == 'w' && peek().text.equals(word);
    }

    Cond cond(int within) {
        Cond left = all(within);
        while (nextIs("or")) {
            at++;
            Cond a = left;
            Cond b = all(within);
            left = m -> a.of(m) | b.of(m);
        }
        return left;
    }

    Cond all(int within) {
        Cond left = one(within);
        while (nextIs("and")) {
            at++;
            Cond a = left;
            Cond b = one(within);
            left = m -> a.of(m) & b.of(m);
        }
        return left;
    }

    Cond one(int within) {
        Token t = peek();
        boolean begins = t.sort == '(' || t.sort == 'w' && List.of("not", "crew", "gets", "ahead", "push", "feet",
            "weight", "number").contains(t.text);
        if (!begins) {
            throw new Fault(1, t.place);
        }
        if (ones == 20 || within == 8) {
            throw new Fault(4, t.place);
        }
        ones++;
        at++;
        switch (t.text) {
            case "(": {
                Cond inner = cond(within + 1);
                pop(')');
                return inner;
            }
            case "not": {
                Cond inner = one(within + 1);
                return m -> !inner.of(m);
            }
            case "crew":
                return m -> place(m) >= 0;
            case "gets":
                return m -> place(m) >= 0 && ride(plan).in.contains(place(m));
            case "ahead": {
                Token n = name();
                int other = course.man(n.text);
                if (other == NONE) {
                    throw new Fault(3, n.place);
                }
                return m -> place(m) >= 0 && place(other) >= 0 && yard(plan, m) < yard(plan, other);
            }
            default:
                return comparison(t.text);
        }
    }

    Cond comparison(String what) {
        Token sign = peek();
        if (sign.sort != '<' && sign.sort != '=' && sign.sort != '>') {
            throw new Fault(1, sign.place);
        }
        at++;
        int n = number(0, 999);
        return m -> {
            Man man = course.men.get(m);
            int v = switch (what) {
                case "push" -> man.push;
                case "feet" -> man.feet;
                case "weight" -> man.weight;
                default -> m;
            };
            return sign.sort == '<' ? v < n : sign.sort == '>' ? v > n : v == n;
        };
    }

    int place(int man) {
        return plan.crew == null ? NONE : plan.crew.indexOf(man);
    }

    int yard(PlanText p, int man) {
        return p.jumps.getOrDefault(man, course.setting("yards") - 1);
    }

    int heightOf(PlanText p, int b) {
        return p.heights.getOrDefault(b, course.bends.get(b).line);
    }

    int fault() {
        return latestFault;
    }

    // ---- a run ----

    static final class RideText {
        int startTime;
        int startPace;
        int time = NONE;
        int lastPace;
        int over = NONE;
        int weight;
        final List<Integer> in = new ArrayList<>();
        final List<Integer> late = new ArrayList<>();
        final List<Integer> paces = new ArrayList<>();
        final List<Integer> behind = new ArrayList<>();
        final int[] how = new int[4];
        int down = NONE;
    }

    static int bound(int pace) {
        return pace < 10 ? 10 : pace > 250 ? 250 : pace;
    }

    RideText ride(PlanText p) {
        return ride(p, null, NONE, 0);
    }

    RideText ride(PlanText p, Integer seed, int touched, int by) {
        RideText r = new RideText();
        int pace = 30;
        int x = seed == null ? 0 : seed;
        int[] gotIn = {-9, -9, -9, -9};
        for (int y = 0; y < course.setting("yards"); y++) {
            int atFirst = pace;
            int load = 0;
            for (int c = 0; c < 4; c++) {
                Man man = course.men.get(p.crew.get(c));
                if (!r.in.contains(c) && !r.late.contains(c) && atFirst < 12 * man.feet) {
                    pace += man.push;
                }
                if (r.in.contains(c)) {
                    load += man.weight;
                }
            }
            pace = bound(pace - 4 - load / 100);
            for (int c = 0; c < 4; c++) {
                Man man = course.men.get(p.crew.get(c));
                if (yard(p, p.crew.get(c)) != y) {
                    continue;
                }
                if (man.feet * 12 + 20 < pace) {
                    r.late.add(c);
                    r.how[c] = 2;
                    continue;
                }
                boolean crowded = false;
                for (int other = 0; other < 4; other++) {
                    crowded |= gotIn[other] == y || gotIn[other] == y - 1;
                }
                int less = crowded ? 6 : 2;
                r.how[c] = crowded ? 1 : 0;
                if (seed != null) {
                    x = x * 1103515245 + 12345;
                    less += (x >>> 8) % 8 == 0 ? 10 : 0;
                }
                pace = bound(pace - less);
                gotIn[c] = y;
                r.in.add(c);
            }
            r.paces.add(pace);
            r.startTime += 3000 / pace;
        }
        r.startPace = pace;
        r.lastPace = pace;
        r.weight = course.setting("sledge") + p.lead;
        for (int c : r.in) {
            r.weight += course.men.get(p.crew.get(c)).weight;
        }
        if (r.weight <= course.setting("most")) {
            down(r, p, pace, r.weight, touched, by);
            if (r.down != NONE) {
                r.time = r.startTime + r.down;
            }
        }
        return r;
    }

    void down(RideText r, PlanText p, int paceAtLine, int weight, int touched, int by) {
        int pace = paceAtLine;
        int time = 0;
        int ahead = 0;
        for (int b = 0; b < course.bends.size(); b++) {
            Bend bend = course.bends.get(b);
            int h = heightOf(p, b);
            pace = bound(paceInBend(p, b, pace, weight, h, ahead));
            r.lastPace = pace;
            if (pace * h > 20 * bend.over) {
                r.over = b;
                return;
            }
            if (b == touched) {
                pace = Math.max(10, pace - by);
            }
            time += bend.length * 3000 / pace;
            r.behind.add(pace);
            ahead = h;
        }
        r.down = time;
    }

    int paceInBend(PlanText p, int b, int pace, int weight, int h, int ahead) {
        Bend bend = course.bends.get(b);
        int next = pace + bend.drop * weight / 100;
        next -= 3 * Math.abs(h - bend.line);
        next -= 2 * Math.abs(h - ahead);
        next -= course.setting("ice");
        next -= p.number / 5;
        next -= p.runner == NONE ? 0 : takes(p.runner, p.number);
        return next;
    }

    int takes(int runner, int number) {
        Runner r = course.runners.get(runner);
        return r.bad * Math.abs(course.setting("warm") + number / 3 - r.best) / 4;
    }

    int man(int m, int what) {
        if (m < 0 || m >= course.men.size() || what < 0 || what > 4) {
            throw new NoSuchElementException();
        }
        Man man = course.men.get(m);
        return switch (what) {
            case 0 -> man.push;
            case 1 -> man.feet;
            case 2 -> man.weight;
            case 3 -> place(m);
            default -> place(m) < 0 ? NONE : yard(plan, m);
        };
    }

    int bend(int b, int what) {
        if (b < 0 || b >= course.bends.size()) {
            return NONE;
        }
        Bend bend = course.bends.get(b);
        return switch (what) {
            case 0 -> bend.length;
            case 1 -> bend.drop;
            case 2 -> bend.line;
            case 3 -> bend.over;
            case 4 -> heightOf(plan, b);
            default -> NONE;
        };
    }

    int runner(int r, int what) {
        if (r < 0 || r >= course.runners.size()) {
            return NONE;
        }
        return switch (what) {
            case 0 -> course.runners.get(r).best;
            case 1 -> course.runners.get(r).bad;
            case 2 -> takes(r, plan.number);
            default -> NONE;
        };
    }

    static int bits(List<Integer> places) {
        return places.stream().mapToInt(c -> 1 << c).sum();
    }

    int start(int what) {
        if (plan.crew == null) {
            return NONE;
        }
        RideText r = ride(plan);
        return switch (what) {
            case 0 -> r.startTime;
            case 1 -> r.startPace;
            case 2 -> bits(r.in);
            case 3 -> bits(r.late);
            case 4 -> r.weight;
            default -> NONE;
        };
    }

    int pace(int yard) {
        return plan.crew == null || yard < 0 || yard >= course.setting("yards") ? NONE : ride(plan).paces.get(yard);
    }

    int jumps(int place) {
        return plan.crew == null || place < 0 || place > 3 ? NONE : ride(plan).how[place];
    }

    int run(int what) {
        if (plan.crew == null) {
            return NONE;
        }
        RideText r = ride(plan);
        return switch (what) {
            case 0 -> r.time;
            case 1 -> r.lastPace;
            case 2 -> r.behind.size();
            case 3 -> r.over;
            default -> NONE;
        };
    }

    int behind(int b) {
        if (plan.crew == null || b < 0) {
            return NONE;
        }
        RideText r = ride(plan);
        return b < r.behind.size() ? r.behind.get(b) : NONE;
    }

    // ---- changes ----

    void remember() {
        past.push(plan.copy());
        while (past.size() > 8) {
            past.removeLast();
        }
    }

    boolean jump(int c, int yard) {
        if (plan.crew == null || c < 0 || c > 3 || yard < 0 || yard >= course.setting("yards")
            || yard(plan, plan.crew.get(c)) == yard) {
            return false;
        }
        remember();
        plan.jumps.put(plan.crew.get(c), yard);
        return true;
    }

    boolean high(int b, int height) {
        if (b < 0 || b >= course.bends.size() || height < 0 || height > 9 || heightOf(plan, b) == height) {
            return false;
        }
        remember();
        plan.heights.put(b, height);
        return true;
    }

    boolean set(int what, int n) {
        boolean good = switch (what) {
            case 0 -> n >= 0 && n <= 99 && plan.lead != n;
            case 1 -> n >= 0 && n < course.runners.size() && plan.runner != n;
            case 2 -> n >= 1 && n <= 60 && plan.number != n;
            default -> false;
        };
        if (good) {
            remember();
            switch (what) {
                case 0 -> plan.lead = n;
                case 1 -> plan.runner = n;
                default -> plan.number = n;
            }
        }
        return good;
    }

    boolean swap(int a, int b) {
        if (plan.crew == null || a < 0 || a > 3 || b < 0 || b > 3 || a == b) {
            return false;
        }
        remember();
        java.util.Collections.swap(plan.crew, a, b);
        return true;
    }

    int undo() {
        if (past.isEmpty()) {
            return NONE;
        }
        plan = past.pop();
        return past.size();
    }

    // ---- searches ----

    /** Men's YARDS by places behind TIME; null if there are none. */
    int[] bestOf(List<Integer> crew) {
        PlanText p = plan.copy();
        p.crew = crew;
        int weight = course.setting("sledge") + p.lead;
        for (int m : crew) {
            weight += course.men.get(m).weight;
        }
        if (weight > course.setting("most")) {
            return null;
        }
        return course.setting("yards") <= 9 ? tryAll(p) : goOn(p, 0, 0, false, 30, weight, new HashMap<>());
    }

    /** Each way to spread the four over the YARDS, in the order of the document. */
    int[] tryAll(PlanText p) {
        int[] choice = new int[course.setting("yards")];
        int[][] best = {null};
        spread(p, choice, 0, 0, best);
        return best[0];
    }

    void spread(PlanText p, int[] choice, int y, int mask, int[][] best) {
        if (y == choice.length) {
            if (mask == 15) {
                p.jumps.clear();
                for (int i = 0; i < choice.length; i++) {
                    if (choice[i] > 0) {
                        p.jumps.put(p.crew.get(choice[i] - 1), i);
                    }
                }
                RideText r = ride(p);
                if (r.late.isEmpty() && r.time != NONE && (best[0] == null || r.time < best[0][0])) {
                    best[0] = new int[] {r.time, yard(p, p.crew.get(0)), yard(p, p.crew.get(1)),
                        yard(p, p.crew.get(2)), yard(p, p.crew.get(3))};
                }
            }
            return;
        }
        for (int c = 0; c <= 4; c++) {
            if (c == 0 || (mask >> (c - 1) & 1) == 0) {
                choice[y] = c;
                spread(p, choice, y + 1, c == 0 ? mask : mask | 1 << (c - 1), best);
            }
        }
        choice[y] = 0;
    }

    /** From a YARD on: the least TIME that is yet to come, and the YARDS of those not in. */
    int[] goOn(PlanText p, int y, int mask, boolean crowd, int atFirst, int weight, Map<Long, int[]> known) {
        if (y == course.setting("yards")) {
            RideText r = new RideText();
            down(r, p, atFirst, weight, NONE, 0);
            return mask != 15 || r.down == NONE ? null : new int[] {r.down, NONE, NONE, NONE, NONE};
        }
        long key = ((y * 16L + mask) * 2 + (crowd ? 1 : 0)) * 1000 + atFirst;
        if (known.containsKey(key)) {
            return known.get(key);
        }
        int pace = atFirst - 4;
        int load = 0;
        for (int c = 0; c < 4; c++) {
            Man man = course.men.get(p.crew.get(c));
            if ((mask >> c & 1) == 1) {
                load += man.weight;
            } else if (atFirst < 12 * man.feet) {
                pace += man.push;
            }
        }
        pace = bound(pace - load / 100);
        int[] best = null;
        for (int c = -1; c < 4; c++) {
            int then = pace;
            if (c >= 0) {
                if ((mask >> c & 1) == 1 || 12 * course.men.get(p.crew.get(c)).feet + 20 < pace) {
                    continue;
                }
                then = bound(pace - (crowd ? 6 : 2));
            }
            int[] rest = goOn(p, y + 1, c < 0 ? mask : mask | 1 << c, c >= 0, then, weight, known);
            if (rest != null && (best == null || rest[0] + 3000 / then < best[0])) {
                best = rest.clone();
                best[0] += 3000 / then;
                if (c >= 0) {
                    best[1 + c] = y;
                }
            }
        }
        known.put(key, best);
        return best;
    }

    int best() {
        int[] b = plan.crew == null ? null : bestOf(plan.crew);
        if (b == null) {
            return NONE;
        }
        when = List.of(b[1], b[2], b[3], b[4]);
        whenCrew = List.copyOf(plan.crew);
        whenSerial = course.serial;
        return b[0];
    }

    int when(int c) {
        return when == null || c < 0 || c > 3 ? NONE : when.get(c);
    }

    int[] lineFrom(int b, int pace, int ahead, int weight, Map<Long, int[]> known) {
        int n = course.bends.size();
        int[] best = null;
        if (b == n) {
            return new int[n + 1];
        }
        long key = (b * 1000L + pace) * 10 + ahead;
        if (known.containsKey(key)) {
            return known.get(key);
        }
        for (int h = 0; h <= 9; h++) {
            int then = bound(paceInBend(plan, b, pace, weight, h, ahead));
            if (then * h > 20 * course.bends.get(b).over) {
                continue;
            }
            int[] rest = lineFrom(b + 1, then, h, weight, known);
            int time = course.bends.get(b).length * 3000 / then;
            if (rest != null && (best == null || rest[n] + time < best[n])) {
                best = rest.clone();
                best[n] += time;
                best[b] = h;
            }
        }
        known.put(key, best);
        return best;
    }

    int line() {
        if (plan.crew == null) {
            return NONE;
        }
        RideText r = ride(plan);
        int n = course.bends.size();
        int[] found = r.weight > course.setting("most") ? null
            : lineFrom(0, r.startPace, 0, r.weight, new HashMap<>());
        if (found == null) {
            return NONE;
        }
        heights = new ArrayList<>();
        for (int b = 0; b < n; b++) {
            heights.add(found[b]);
        }
        heightsCrew = List.copyOf(plan.crew);
        heightsSerial = course.serial;
        return r.startTime + found[n];
    }

    int height(int b) {
        return heights == null || b < 0 || b >= heights.size() ? NONE : heights.get(b);
    }

    boolean take(int what) {
        if (what == 0 && heights != null && heightsSerial == course.serial && heightsCrew.equals(plan.crew)) {
            remember();
            for (int b = 0; b < heights.size(); b++) {
                plan.heights.put(b, heights.get(b));
            }
            return true;
        }
        if (what == 1 && when != null && whenSerial == course.serial && whenCrew.equals(plan.crew)) {
            remember();
            for (int c = 0; c < 4; c++) {
                plan.jumps.put(plan.crew.get(c), when.get(c));
            }
            return true;
        }
        return false;
    }

    int four() {
        int n = course.men.size();
        int least = NONE;
        int set = NONE;
        if (n > 6) {
            return NONE;
        }
        for (int a = 0; a < n; a++) {
            for (int b = a + 1; b < n; b++) {
                for (int c = b + 1; c < n; c++) {
                    for (int d = c + 1; d < n; d++) {
                        int[] found = bestOf(List.of(a, b, c, d));
                        if (found != null && (least == NONE || found[0] < least)) {
                            least = found[0];
                            set = bits(List.of(a, b, c, d));
                        }
                    }
                }
            }
        }
        return set;
    }

    static int less(int a, int b) {
        return a == NONE || b == NONE ? NO : a - b;
    }

    int kilo(int n) {
        if (plan.crew == null || n < 1 || n > 99 || plan.lead + n > 99) {
            return NO;
        }
        PlanText p = plan.copy();
        p.lead += n;
        return less(ride(plan).time, ride(p).time);
    }

    int runners() {
        int least = NONE;
        int who = NONE;
        for (int r = 0; plan.crew != null && r < course.runners.size(); r++) {
            PlanText p = plan.copy();
            p.runner = r;
            int t = ride(p).time;
            if (t != NONE && (least == NONE || t < least)) {
                least = t;
                who = r;
            }
        }
        return who;
    }

    int byNumber(int number) {
        if (plan.crew == null || number < 1 || number > 60) {
            return NONE;
        }
        PlanText p = plan.copy();
        p.number = number;
        return ride(p).time;
    }

    int runs() {
        byte[] numbers = tape;
        tape = new byte[0];
        int sum = 0;
        for (byte n : numbers) {
            int t = byNumber(n);
            if (t == NONE) {
                return NONE;
            }
            sum += t;
        }
        return numbers.length == 4 ? sum : NONE;
    }

    int worth(int a, int b) {
        return less(byNumber(b), byNumber(a));
    }

    boolean keep() {
        if (plan.crew == null) {
            return false;
        }
        kept = plan.copy();
        return true;
    }

    int lost(int what) {
        if (plan.crew == null || kept == null || what < 0 || what > 3) {
            return NO;
        }
        RideText mine = ride(plan);
        RideText other = ride(kept);
        RideText mixed = new RideText();
        down(mixed, kept, mine.startPace, other.weight, NONE, 0);
        if (mine.time == NONE || other.time == NONE || mixed.down == NONE) {
            return NO;
        }
        int[] parts = {mine.startTime - other.startTime, mixed.down - other.down, mine.down - mixed.down,
            mine.time - other.time};
        return parts[what];
    }

    int touch(int b, int n) {
        if (plan.crew == null || b < 0 || b >= course.bends.size() || n < 1 || n > 99) {
            return NO;
        }
        return less(ride(plan, null, b, n).time, ride(plan).time);
    }

    int drawn(int seed) {
        return plan.crew == null ? NONE : ride(plan, seed, NONE, 0).time;
    }

    int odds(int n, int seed, int t) {
        if (plan.crew == null || n < 1 || n > 60) {
            return NONE;
        }
        int below = 0;
        for (int i = 0; i < n; i++) {
            int time = drawn(seed + i);
            below += time != NONE && time < t ? 1 : 0;
        }
        return below;
    }

    int room() {
        if (plan.crew == null) {
            return NONE;
        }
        int weight = ride(plan).weight - plan.lead;
        for (int lead = 99; lead >= 0; lead--) {
            if (weight + lead <= course.setting("most")) {
                return lead;
            }
        }
        return NONE;
    }

    int said(int k) {
        if (sentence == null) {
            return NONE;
        }
        List<Integer> who = new ArrayList<>();
        for (int m = 0; m < course.men.size(); m++) {
            if (sentence.of(m)) {
                who.add(m);
            }
        }
        return k == NONE ? who.size() : k >= 0 && k < who.size() ? who.get(k) : NONE;
    }

    boolean image(int k) {
        if (k != 0 && k != 1) {
            return false;
        }
        images[k] = new Object[] {course, plan.copy(), kept, sentence};
        return true;
    }

    boolean restore(int k) {
        if (k != 0 && k != 1 || images[k] == null) {
            return false;
        }
        course = (CourseText) images[k][0];
        plan = ((PlanText) images[k][1]).copy();
        kept = (PlanText) images[k][2];
        sentence = (Cond) images[k][3];
        past.clear();
        return true;
    }

    int count(int what) {
        return switch (what) {
            case 0 -> course.setting("yards");
            case 1 -> course.setting("sledge");
            case 2 -> course.setting("most");
            case 3 -> course.setting("ice");
            case 4 -> course.setting("warm");
            case 5 -> course.men.size();
            case 6 -> course.bends.size();
            case 7 -> course.runners.size();
            case 8 -> plan.lead;
            case 9 -> plan.runner;
            case 10 -> plan.number;
            case 11 -> plan.crew == null ? 0 : 1;
            case 12 -> tape.length;
            default -> NONE;
        };
    }
}
