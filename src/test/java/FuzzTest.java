import java.util.ArrayList;
import java.util.List;
import java.util.NoSuchElementException;
import java.util.Random;

/** Runs of calls drawn by fixed seeds: each answer is compared with that of Model. */
public final class FuzzTest {
    private final Random random;
    private final FourSledge x = new FourSledge();
    private final Model model = new Model();
    private final StringBuilder told = new StringBuilder();
    private int calls = 0;
    private int wrong = 0;
    private List<String> men = new ArrayList<>();
    private List<String> runners = new ArrayList<>();
    private int yards = 40;
    private int bends = 0;

    private FuzzTest(long seed) {
        random = new Random(seed);
    }

    private int up(int least, int most) {
        return least + random.nextInt(most - least + 1);
    }

    private boolean one(int in) {
        return random.nextInt(in) == 0;
    }

    private <T> T any(List<T> list) {
        return list.get(random.nextInt(list.size()));
    }

    private void due(String call, long got, long want) {
        calls++;
        told.append(call).append(" -> ").append(got).append('\n');
        if (got != want && wrong++ == 0) {
            String all = told.toString();
            System.out.println(all.substring(Math.max(0, all.length() - 3000)) + "due is " + want);
        }
        Texts.due(call, got, want);
    }

    private void due(String call, boolean got, boolean want) {
        due(call, got ? 1 : 0, want ? 1 : 0);
    }

    // ---- texts ----

    private static final List<String> WORDS = List.of("yards", "sledge", "most", "ice", "warm", "man", "bend",
        "runner", "crew", "jump", "lead", "high", "on", "start", "or", "and", "not", "gets", "ahead", "push", "feet",
        "weight", "number", "a", "b", "abcdefg", "abcdefgh", "z", "yard", "sledges");
    private static final List<String> ODD = List.of("0", "1", "9", "10", "99", "100", "150", "999", "1000", "007",
        "0000", ";", "<", "=", ">", "(", ")", ".", "A", "-1", "a1", "1a", "\t", "\u00e9", "\u0000", "");

    private String blank() {
        return one(6) ? "\n" : one(8) ? "  " : " ";
    }

    private void put(List<String> text, Object... parts) {
        for (Object part : parts) {
            text.add(part.toString());
        }
        text.add(";");
    }

    private String name(int i) {
        return i % 5 == 4 ? "x" + (char) ('a' + i) : String.valueOf((char) ('a' + i));
    }

    private List<String> courseText(boolean heavy) {
        List<String> t = new ArrayList<>();
        men = new ArrayList<>();
        runners = new ArrayList<>();
        yards = 40;
        bends = 0;
        int manCount = one(12) ? up(0, 13) : up(4, 6);
        int bendCount = one(10) ? up(0, 13) : up(0, 4);
        int runnerCount = one(10) ? up(0, 7) : up(0, 3);
        if (heavy || !one(10)) {
            yards = heavy ? up(10, 40) : up(5, 9);
            put(t, "yards", yards);
        }
        if (one(2)) {
            put(t, "sledge", up(100, 300));
        }
        if (!one(3)) {
            put(t, "most", one(3) ? up(500, 700) : up(700, 900));
        }
        if (one(2)) {
            put(t, "ice", up(0, 9));
        }
        if (one(2)) {
            put(t, "warm", up(0, 20));
        }
        int like = one(4) ? up(1, 9) : 0;
        for (int i = 0; i < manCount; i++) {
            men.add(name(i));
            put(t, "man", name(i), like > 0 ? like : up(1, 9), like > 0 ? like : up(1, 9), like > 0 ? 80 : up(50, 150));
        }
        boolean steep = one(2);
        for (int i = 0; i < bendCount; i++) {
            bends++;
            put(t, "bend", up(1, 9), steep ? up(3, 9) : up(0, 9), up(0, 9), one(2) ? up(1, 99) : up(20, 99));
        }
        for (int i = 0; i < runnerCount; i++) {
            runners.add(name(20 - i));
            put(t, "runner", name(20 - i), up(0, 20), up(0, 9));
        }
        return t;
    }

    private List<String> planText() {
        List<String> t = new ArrayList<>();
        List<String> left = new ArrayList<>(men);
        if (left.size() >= 4 && !one(12)) {
            java.util.Collections.shuffle(left, random);
            put(t, "crew", left.get(0), left.get(1), left.get(2), left.get(3));
            for (int c = 0; c < 4; c++) {
                if (!one(4)) {
                    put(t, "jump", left.get(c), one(3) ? up(Math.max(0, yards - 5), yards - 1) : up(0, yards - 1));
                }
            }
        }
        if (one(2)) {
            put(t, "lead", up(0, 99));
        }
        for (int b = 0; b < bends && b < 12; b++) {
            if (one(3)) {
                put(t, "high", b, up(0, 9));
            }
        }
        if (!runners.isEmpty() && one(2)) {
            put(t, "on", any(runners));
        }
        if (one(2)) {
            put(t, "start", up(1, 60));
        }
        return t;
    }

    private List<String> sentenceText() {
        List<String> t = new ArrayList<>();
        cond(t, one(5) ? 9 : up(0, 4), one(6) ? 6 : 2);
        return t;
    }

    private void cond(List<String> t, int depth, int wide) {
        int parts = up(1, wide);
        for (int i = 0; i < parts; i++) {
            if (i > 0) {
                t.add(one(2) ? "or" : "and");
            }
            oneOf(t, depth, wide);
        }
    }

    private void oneOf(List<String> t, int depth, int wide) {
        if (depth > 0 && one(2)) {
            if (one(2)) {
                t.add("not");
                oneOf(t, depth - 1, wide);
            } else {
                t.add("(");
                cond(t, depth - 1, one(2) ? 1 : wide);
                t.add(")");
            }
            return;
        }
        switch (up(0, 3)) {
            case 0 -> t.add("crew");
            case 1 -> t.add("gets");
            case 2 -> {
                t.add("ahead");
                t.add(men.isEmpty() ? "q" : any(men));
            }
            default -> {
                String what = List.of("push", "feet", "weight", "number").get(up(0, 3));
                t.add(what);
                t.add(List.of("<", "=", ">").get(up(0, 2)));
                t.add(String.valueOf(what.equals("weight") ? up(50, 150) : up(0, 9)));
            }
        }
    }

    private void spoil(List<String> t) {
        if (t.isEmpty()) {
            t.add(any(ODD));
            return;
        }
        int at = random.nextInt(t.size());
        switch (up(0, 6)) {
            case 0 -> t.remove(at);
            case 1 -> t.set(at, any(ODD));
            case 2 -> t.set(at, any(WORDS));
            case 3 -> t.add(at, any(one(2) ? ODD : WORDS));
            case 4 -> t.add(at, t.get(random.nextInt(t.size())));
            case 5 -> t.subList(at, t.size()).clear();
            default -> {
                int from = t.subList(0, at).lastIndexOf(";") + 1;
                int to = t.subList(at, t.size()).indexOf(";") + at + 1;
                if (to > from) {
                    t.addAll(new ArrayList<>(t.subList(from, to)));
                }
            }
        }
    }

    private String written(List<String> t, int most) {
        StringBuilder s = new StringBuilder();
        int pad = one(12) ? Math.max(0, most - up(0, 30)) : 0;
        int padAt = t.isEmpty() ? 0 : random.nextInt(t.size());
        for (int i = 0; i < t.size(); i++) {
            String part = t.get(i);
            boolean runOn = !s.isEmpty() && !part.isEmpty() && Character.isLetterOrDigit(s.charAt(s.length() - 1))
                && Character.isLetterOrDigit(part.charAt(0));
            if (runOn ? !one(300) : one(4)) {
                s.append(blank());
            }
            if (pad > 0 && i == padAt) {
                s.append(" ".repeat(Math.max(0, pad - String.join(" ", t).length() + up(0, 60))));
            }
            s.append(part);
        }
        if (one(10)) {
            s.append(blank());
        }
        return s.length() > 940 ? s.substring(0, 940) : s.toString();
    }

    private void tell(String text) {
        byte[] bytes = Texts.bytes(text);
        told.append("text: ").append(text).append('\n');
        for (int i = 0; i < bytes.length; i += 20) {
            int[] f = Texts.ints(bytes, i);
            due("feed", x.feed(f[0], f[1], f[2], f[3], f[4]), model.feed(f[0], f[1], f[2], f[3], f[4]));
        }
        due("end", x.end(bytes.length), model.end(bytes.length));
    }

    private void tellCourse(boolean heavy, boolean spoilt) {
        List<String> menWere = men;
        List<String> runnersWere = runners;
        int yardsWere = yards;
        int bendsWere = bends;
        List<String> t = courseText(heavy);
        if (spoilt) {
            spoil(t);
        }
        tell(written(t, 900));
        due("course()", x.course(), model.course());
        due("fault()", x.fault(), model.fault());
        if (model.fault() != 0) {
            men = menWere;
            runners = runnersWere;
            yards = yardsWere;
            bends = bendsWere;
        }
    }

    private void tellPlan(boolean spoilt) {
        List<String> t = planText();
        if (spoilt) {
            spoil(t);
        }
        tell(written(t, 400));
        due("plan()", x.plan(), model.plan());
        due("fault()", x.fault(), model.fault());
    }

    private void tellSentence(boolean spoilt) {
        List<String> t = sentenceText();
        if (spoilt) {
            spoil(t);
        }
        tell(written(t, 200));
        due("sentence()", x.sentence(), model.sentence());
        due("fault()", x.fault(), model.fault());
    }

    // ---- calls ----

    private void askMan(int m, int what) {
        long got = Long.MIN_VALUE;
        long want = Long.MIN_VALUE;
        try {
            got = x.man(m, what);
        } catch (NoSuchElementException e) {
            told.append("throws ");
        }
        try {
            want = model.man(m, what);
        } catch (NoSuchElementException e) {
            told.append("is to throw ");
        }
        due("man(" + m + ", " + what + ")", got, want);
    }

    private int some(int most) {
        return one(15) ? (one(2) ? Integer.MIN_VALUE : Integer.MAX_VALUE) : up(-1, most + 1);
    }

    private void ask() {
        int a = some(12);
        int w = some(4);
        switch (up(0, 20)) {
            case 0, 1 -> askMan(a, w);
            case 2, 3 -> due("bend(" + a + ", " + w + ")", x.bend(a, w), model.bend(a, w));
            case 4 -> due("runner(" + a + ", " + w + ")", x.runner(a, w), model.runner(a, w));
            case 5, 6 -> due("start(" + w + ")", x.start(w), model.start(w));
            case 7, 8 -> {
                int y = some(yards);
                due("pace(" + y + ")", x.pace(y), model.pace(y));
            }
            case 9 -> due("jumps(" + w + ")", x.jumps(w), model.jumps(w));
            case 10, 11, 12 -> due("run(" + w + ")", x.run(w), model.run(w));
            case 13 -> due("behind(" + a + ")", x.behind(a), model.behind(a));
            case 14 -> due("when(" + w + ")", x.when(w), model.when(w));
            case 15 -> due("height(" + a + ")", x.height(a), model.height(a));
            case 16 -> due("room()", x.room(), model.room());
            case 17, 18 -> due("said(" + w + ")", x.said(w), model.said(w));
            case 19 -> due("count(" + a + ")", x.count(a), model.count(a));
            default -> due("fault()", x.fault(), model.fault());
        }
    }

    private void change() {
        int c = some(3);
        switch (up(0, 9)) {
            case 0, 1, 2 -> {
                int y = some(yards);
                due("jump(" + c + ", " + y + ")", x.jump(c, y), model.jump(c, y));
            }
            case 3, 4 -> {
                int b = some(Math.max(bends, 1));
                int h = some(9);
                due("high(" + b + ", " + h + ")", x.high(b, h), model.high(b, h));
            }
            case 5, 6 -> {
                int what = some(2);
                int n = some(what == 0 ? 99 : what == 1 ? 3 : 60);
                due("set(" + what + ", " + n + ")", x.set(what, n), model.set(what, n));
            }
            case 7 -> {
                int d = some(3);
                due("swap(" + c + ", " + d + ")", x.swap(c, d), model.swap(c, d));
            }
            case 8 -> {
                int what = some(1);
                due("take(" + what + ")", x.take(what), model.take(what));
            }
            default -> due("undo()", x.undo(), model.undo());
        }
    }

    private void weigh(boolean heavy) {
        int a = some(60);
        int b = some(60);
        switch (up(0, 10)) {
            case 0 -> due("best()", x.best(), model.best());
            case 1 -> due("line()", x.line(), model.line());
            case 2 -> {
                if (!heavy && yards < 10 || one(30)) {
                    due("four()", x.four(), model.four());
                }
            }
            case 3 -> due("kilo(" + a + ")", x.kilo(a), model.kilo(a));
            case 4 -> due("runners()", x.runners(), model.runners());
            case 5 -> {
                tell("" + (char) up(one(9) ? 0 : 1, one(9) ? 61 : 60) + (char) up(1, 60) + (char) up(1, 60)
                    + (one(8) ? "" : "" + (char) (one(9) ? up(0, 255) : up(1, 60))) + (one(9) ? "\u0001" : ""));
                due("runs()", x.runs(), model.runs());
            }
            case 6 -> due("worth(" + a + ", " + b + ")", x.worth(a, b), model.worth(a, b));
            case 7 -> {
                due("keep()", x.keep(), model.keep());
            }
            case 8 -> {
                int what = some(3);
                due("lost(" + what + ")", x.lost(what), model.lost(what));
            }
            case 9 -> {
                int bend = some(Math.max(bends, 1));
                int n = some(99);
                due("touch(" + bend + ", " + n + ")", x.touch(bend, n), model.touch(bend, n));
            }
            default -> {
                int seed = one(4) ? Integer.MAX_VALUE - up(0, 5) : random.nextInt();
                int t = up(0, 3000);
                due("drawn(" + seed + ")", x.drawn(seed), model.drawn(seed));
                due("odds(" + a + ", " + seed + ", " + t + ")", x.odds(a, seed, t), model.odds(a, seed, t));
            }
        }
    }

    private void step(boolean heavy) {
        int k = some(1);
        int which = up(0, 99);
        if (which < 2) {
            tellCourse(heavy, one(2));
        } else if (which < 6) {
            tellPlan(one(3));
        } else if (which < 12) {
            tellSentence(one(3));
        } else if (which < 15) {
            due("image(" + k + ")", x.image(k), model.image(k));
        } else if (which < 17) {
            due("restore(" + k + ")", x.restore(k), model.restore(k));
            rememberNames();
        } else if (which < 40) {
            change();
        } else if (which < 65) {
            weigh(heavy);
        } else {
            ask();
        }
    }

    private void rememberNames() {
        men = new ArrayList<>();
        runners = new ArrayList<>();
        model.course.men.forEach(m -> men.add(m.name()));
        model.course.runners.forEach(r -> runners.add(r.name()));
        yards = model.course.setting("yards");
        bends = model.course.bends.size();
    }

    private void go(boolean heavy) {
        if (!one(10)) {
            tellCourse(heavy, false);
            tellPlan(false);
        }
        while (calls < 460) {
            step(heavy);
        }
        for (int i = 0; i <= 12; i++) {
            due("count(" + i + ")", x.count(i), model.count(i));
        }
    }

    /** Texts alone, many of them spoilt: the places and kinds of FAULTS. */
    private void goTexts() {
        tellCourse(false, false);
        while (calls < 460) {
            int which = up(0, 2);
            if (which == 0) {
                tellCourse(false, !one(4));
            } else if (which == 1) {
                tellPlan(!one(4));
            } else {
                tellSentence(!one(4));
            }
        }
    }

    public static void main(String[] args) {
        int runs = args.length > 0 ? Integer.parseInt(args[0]) : 300;
        long first = args.length > 1 ? Long.parseLong(args[1]) : 1;
        for (long seed = first; seed < first + runs; seed++) {
            new FuzzTest(seed).go(seed % 10 == 0);
            new FuzzTest(-seed).goTexts();
        }
        Texts.finish("FuzzTest");
    }
}
