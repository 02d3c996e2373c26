import java.util.function.Predicate;
import java.util.function.Supplier;

/** What the tests of edges share: COURSES and PLANS, and how texts and refused calls are looked at. */
class EdgeHelp {
    static final int NO = -100001;
    static final String MEN = "man a 9 9 100;man b 8 9 90;man c 7 5 70;man d 6 9 110;";
    static final String BENDS = "bend 2 2 4 40;bend 3 5 2 9;";
    static final String RUNNERS = "runner v 6 4;runner r 10 2;";
    /** Worked out by hand at the head of PromiseTest: 197 at the line with PACE 83 and WEIGHT 500, 358 in all. */
    static final String COURSE = "yards 5;sledge 200;most 800;ice 1;warm 6;" + MEN + BENDS + RUNNERS;
    static final String CREW = "crew a b c d;";
    static final String OVER = CREW + "jump a 1;jump b 2;jump c 3;";
    static final String PLAN = OVER + "high 1 1;";

    /** So many LINES with NAMES a, b, c .. */
    static String many(String word, int n, String rest) {
        StringBuilder s = new StringBuilder();
        for (int i = 0; i < n; i++) {
            s.append(word).append(' ').append((char) ('a' + i)).append(rest);
        }
        return s.toString();
    }

    static void edge(int section, String quote, Runnable test) {
        Edges.edge(section, quote, test);
    }

    static void due(String what, long got, long want) {
        Texts.due(what, got, want);
    }

    static void due(String what, boolean got, boolean want) {
        Texts.due(what, got, want);
    }

    static FourSledge told(String course, String plan) {
        FourSledge x = new FourSledge();
        due("course: " + course, Texts.course(x, course) >= 0, true);
        due("plan: " + plan, Texts.plan(x, plan) >= 0, true);
        return x;
    }

    static FourSledge down() {
        return told(COURSE, PLAN);
    }

    /** It turns OVER in BEND 1. */
    static FourSledge over() {
        return told(COURSE, OVER);
    }

    /** One kilo above 'most'. */
    static FourSledge heavy() {
        return told(COURSE.replace("most 800", "most 499"), PLAN);
    }

    /** A COURSE, but no crew. */
    static FourSledge nobody() {
        return told(COURSE, "");
    }

    static void courseIs(String text, int lines) {
        FourSledge x = new FourSledge();
        due("course: " + text, Texts.course(x, text), lines);
        due("no fault: " + text, x.fault(), 0);
    }

    static void planIs(String text, int lines) {
        FourSledge x = nobody();
        due("plan: " + text, Texts.plan(x, text), lines);
        due("no fault: " + text, x.fault(), 0);
    }

    static void sentenceIs(String text, int ones) {
        FourSledge x = down();
        due("sentence: " + text, Texts.sentence(x, text), ones);
        due("no fault: " + text, x.fault(), 0);
    }

    static void courseFault(String text, int kind, int place) {
        FourSledge x = new FourSledge();
        due("course: " + text, Texts.course(x, text), -1 - place);
        due("its fault: " + text, x.fault(), kind);
    }

    static void planFault(String text, int kind, int place) {
        FourSledge x = nobody();
        due("plan: " + text, Texts.plan(x, text), -1 - place);
        due("its fault: " + text, x.fault(), kind);
    }

    static void sentenceFault(String text, int kind, int place) {
        FourSledge x = nobody();
        due("sentence: " + text, Texts.sentence(x, text), -1 - place);
        due("its fault: " + text, x.fault(), kind);
    }

    /** The MEN of whom it may be said, as bits. */
    static int saidOf(FourSledge x, String sentence) {
        due("a sentence: " + sentence, Texts.sentence(x, sentence) > 0, true);
        int bits = 0;
        for (int k = 0; k < x.said(-1); k++) {
            bits |= 1 << x.said(k);
        }
        return bits;
    }

    /** All that can be asked without changing anything, but for the searches. */
    static String view(FourSledge x) {
        StringBuilder s = new StringBuilder();
        for (int what = 0; what <= 12; what++) {
            s.append("count ").append(x.count(what)).append(' ');
        }
        for (int i = 0; i < 5; i++) {
            for (int what = 3; what <= 4; what++) {
                s.append("man ").append(i < x.count(5) ? x.man(i, what) : -2).append(' ');
            }
            s.append("bend ").append(x.bend(i, 4)).append(" height ").append(x.height(i));
            s.append(" start ").append(x.start(i)).append(" run ").append(x.run(i)).append(" when ").append(x.when(i));
            s.append(" lost ").append(x.lost(i)).append(" said ").append(x.said(i - 1)).append(' ');
        }
        return s.append("fault ").append(x.fault()).toString();
    }

    /** A refused call: it answers false, nothing changes, and what could be undone still can, no more. */
    static void refused(Supplier<FourSledge> make, String name, Predicate<FourSledge> call) {
        FourSledge x = make.get();
        x.set(0, 7);
        String before = view(x);
        due(name, call.test(x), false);
        String after = view(x);
        due(name + " changes " + before + " to " + after, after.equals(before), true);
        due(name + ": what can be undone", x.undo(), 0);
        due(name + ": what more can be undone", x.undo(), -1);
    }

    /** FOUR RUNS by these bytes. */
    static int runs(FourSledge x, int... numbers) {
        StringBuilder s = new StringBuilder();
        for (int number : numbers) {
            s.append((char) number);
        }
        Texts.tape(x, s.toString());
        return x.runs();
    }

    static boolean throwsNone(FourSledge x, int m, int what) {
        try {
            x.man(m, what);
            return false;
        } catch (java.util.NoSuchElementException e) {
            return true;
        }
    }
}
