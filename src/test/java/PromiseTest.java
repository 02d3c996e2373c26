import java.util.NoSuchElementException;

/**
 * The promises one by one. The numbers are worked out by hand from the document for COURSE and PLAN:
 * YARD 0: 30 + 30 - 4 = 56, TIME 53. YARD 1: 56 + 30 - 4 = 82, a in 80, TIME 37. YARD 2: 80 + 14 - 5 = 89,
 * b in 83 (CROWDED), TIME 36. YARD 3: 83 + 6 - 5 = 84, c LATE (80 below 84), TIME 35. YARD 4: 84 + 6 - 5 = 85,
 * d in 83, TIME 36. At the line 197 with 83, WEIGHT 500.
 * BEND 0: 83 + 10 - 8 - 1 = 84, TIME 71. BEND 1: 84 + 25 - 4 - 1 = 104, times 2 above 180: OVER.
 * With HEIGHT 1 there: 84 + 25 - 3 - 6 - 1 = 99, TIME 90: 358 in all.
 */
public final class PromiseTest {
    private static final int NO = -100001;
    private static final String COURSE = "yards 5;sledge 200;most 800;ice 1;warm 6;man a 9 9 100;man b 8 9 90;"
        + "man c 7 5 70;man d 6 9 110;bend 2 2 4 40;bend 3 5 2 9;runner v 6 4;runner r 10 2;";
    private static final String CREW = "crew a b c d;";
    private static final String OVER = CREW + "jump a 1;jump b 2;jump c 3;";
    private static final String PLAN = OVER + "high 1 1;";

    private static FourSledge told(String course, String plan) {
        FourSledge x = new FourSledge();
        due("course: " + course, Texts.course(x, course) >= 0, true);
        due("plan: " + plan, Texts.plan(x, plan) >= 0, true);
        return x;
    }

    private static FourSledge down() {
        return told(COURSE, PLAN);
    }

    private static FourSledge over() {
        return told(COURSE, OVER);
    }

    /** With a COURSE, but no crew. */
    private static FourSledge nobody() {
        return told(COURSE, "");
    }

    private static void due(String what, long got, long want) {
        Texts.due(what, got, want);
    }

    private static void due(String what, boolean got, boolean want) {
        Texts.due(what, got, want);
    }

    private static boolean throwsNone(FourSledge x, int m, int what) {
        try {
            x.man(m, what);
            return false;
        } catch (NoSuchElementException e) {
            return true;
        }
    }

    private static void courseFault(String text, int kind, int place) {
        FourSledge x = down();
        due("course: " + text, Texts.course(x, text), -1 - place);
        due("its fault: " + text, x.fault(), kind);
        due("the tape behind it", x.count(12), 0);
        due("the COURSE stays: men", x.count(5), 4);
        due("the COURSE stays: run(0)", x.run(0), 358);
    }

    private static void planFault(String text, int kind, int place) {
        FourSledge x = down();
        x.high(1, 0);
        due("plan: " + text, Texts.plan(x, text), -1 - place);
        due("its fault: " + text, x.fault(), kind);
        due("the tape behind it", x.count(12), 0);
        due("undo() is not forgotten", x.undo(), 0);
        due("the PLAN stays: run(0)", x.run(0), 358);
    }

    private static void sentenceFault(String text, int kind, int place) {
        FourSledge x = down();
        due("sentence", Texts.sentence(x, "push > 7"), 1);
        due("sentence: " + text, Texts.sentence(x, text), -1 - place);
        due("its fault: " + text, x.fault(), kind);
        due("the tape behind it", x.count(12), 0);
        due("the SENTENCE stays: said(-1)", x.said(-1), 2);
    }

    private static void said(FourSledge x, String text, int ones, int... who) {
        due("sentence: " + text, Texts.sentence(x, text), ones);
        due("how many: " + text, x.said(-1), who.length);
        for (int k = 0; k < who.length; k++) {
            due("said(" + k + "): " + text, x.said(k), who[k]);
        }
        due("one more: " + text, x.said(who.length), -1);
    }

    private static void promise1() {
        FourSledge x = new FourSledge();
        int[] usual = {40, 210, 630, 2, 5, 0, 0, 0, 0, -1, 1, 0, 0};
        for (int i = 0; i < usual.length; i++) {
            due("new: count(" + i + ")", x.count(i), usual[i]);
        }
        due("new: fault()", x.fault(), 0);
        due("new: NONE", FourSledge.NONE, -1);
        due("new: undo()", x.undo(), -1);
        due("new: when(0)", x.when(0), -1);
        due("new: height(0)", x.height(0), -1);
        due("new: restore(0)", x.restore(0), false);
    }

    private static void promise2() {
        FourSledge x = new FourSledge();
        for (int i = 1; i <= 47; i++) {
            due("feed, time " + i, x.feed(1, 2, 3, 4, 5), 20 * i);
        }
        due("feed beyond 940", x.feed(1, 2, 3, 4, 5), -1);
        due("the tape is as it was", x.count(12), 940);
        x.end(921);
        due("feed beyond 940 from 921", x.feed(0, 0, 0, 0, 0), -1);
        x.end(920);
        due("feed up to 940", x.feed(0, 0, 0, 0, 0), 940);
        x.end(0);
        x.feed(0x69636520, 0x333b7761, 0x726d2037, 0x3b796172, 0x64732039);
        x.feed(0x3b000000, 0, 0, 0, 0);
        x.end(21);
        due("bytes in their order", x.course(), 3);
        due("bytes in their order: ice", x.count(3), 3);
        due("bytes in their order: warm", x.count(4), 7);
        due("bytes in their order: yards", x.count(0), 9);
    }

    private static void promise3() {
        FourSledge x = new FourSledge();
        due("end(0) of none", x.end(0), true);
        due("end(1) of none", x.end(1), false);
        x.feed(0, 0, 0, 0, 0);
        due("end(-1)", x.end(-1), false);
        due("end(least)", x.end(Integer.MIN_VALUE), false);
        due("end(21)", x.end(21), false);
        due("bytes stay", x.count(12), 20);
        due("end(20)", x.end(20), true);
        due("end(7)", x.end(7), true);
        due("bytes go", x.count(12), 7);
        due("end(8) then", x.end(8), false);
        due("feed behind them", x.feed(0, 0, 0, 0, 0), 27);
    }

    private static void promise4() {
        FourSledge x = new FourSledge();
        due("LINES", Texts.course(x, COURSE), 13);
        due("men", x.count(5), 4);
        Texts.plan(x, PLAN + "lead 5;on r;start 9;");
        Texts.sentence(x, "crew");
        x.keep();
        x.set(0, 7);
        due("a new COURSE: no LINE", Texts.course(x, " \n"), 0);
        due("no crew", x.count(11), 0);
        due("no lead", x.count(8), 0);
        due("no RUNNER", x.count(9), -1);
        due("the number", x.count(10), 1);
        due("nothing to undo", x.undo(), -1);
        due("no SENTENCE", x.said(-1), -1);
        due("a COURSE without blanks but one", Texts.course(x, "most 899;ice\n0;bend 9 9 9 99;bend 1 0 0 1;"), 4);
        Texts.course(x, COURSE);
        Texts.plan(x, PLAN);
        due("none is kept", x.lost(3), NO);
        due("most MEN, BENDS, RUNNERS", Texts.course(x, many("man", 12, " 1 1 50;") + many("runner", 6, "r 0 0;")
            + "bend 1 0 0 1;".repeat(12)), 30);
        due("edges", Texts.course(x, "yards 40;sledge 100;most 300;ice 9;warm 20;man a 9 9 150;runner b 20 9;"), 7);
        due("leading 0", Texts.course(x, "ice 007;"), 1);
        names();
        courseFaults();
    }

    private static String many(String word, int n, String rest) {
        StringBuilder s = new StringBuilder();
        for (int i = 0; i < n; i++) {
            s.append(word).append(' ').append((char) ('a' + i)).append(rest);
        }
        return s.toString();
    }

    /** NAMES alike but for one letter, its place or their length are unlike. */
    private static void names() {
        FourSledge x = new FourSledge();
        String[] names = {"ab", "ba", "aa", "a", "b", "abcdefg", "abcdefh", "bbcdefg", "zz", "z", "zzzzzzz", "yz"};
        StringBuilder course = new StringBuilder("yards 5;");
        for (int i = 0; i < names.length; i++) {
            course.append("man ").append(names[i]).append(" 1 9 ").append(50 + i).append(';');
        }
        due("twelve NAMES", Texts.course(x, course.toString()), 13);
        for (int i = 0; i + 3 < names.length; i++) {
            due("crew of NAMES", Texts.plan(x, "crew " + names[i + 3] + " " + names[i] + "\n" + names[i + 2] + " "
                + names[i + 1] + ";"), 1);
            due("place of " + names[i], x.man(i, 3), 1);
            due("place of " + names[i + 1], x.man(i + 1, 3), 3);
            due("place of " + names[i + 3], x.man(i + 3, 3), 0);
        }
        due("NAMES that begin as WORDS", Texts.course(x, "man yard 1 1 50;man yardsa 1 1 50;man ons 1 1 50;"), 3);
    }

    private static void courseFaults() {
        courseFault("yards 4;", 2, 6);
        courseFault("yards 41;", 2, 6);
        courseFault("sledge 99;", 2, 7);
        courseFault("sledge 301;", 2, 7);
        courseFault("most 299;", 2, 5);
        courseFault("most 901;", 2, 5);
        courseFault("ice 10;", 2, 4);
        courseFault("warm 21;", 2, 5);
        courseFault("man a 0 1 50;", 2, 6);
        courseFault("man a 1 10 50;", 2, 8);
        courseFault("man a 1 1 151;", 2, 10);
        courseFault("man a 1 1 49;", 2, 10);
        courseFault("man a 10 1 50;", 2, 6);
        courseFault("man a 1 0 50;", 2, 8);
        courseFault("bend 10 1 1 1;", 2, 5);
        courseFault("man a z 1 50;", 1, 6);
        courseFault("{ice 1;", 1, 0);
        courseFault("`ice 1;", 1, 0);
        courseFault("ice 1:", 1, 5);
        courseFault("ice /;", 1, 4);
        courseFault("bend 0 1 1 1;", 2, 5);
        courseFault("bend 1 10 1 1;", 2, 7);
        courseFault("bend 1 1 10 1;", 2, 9);
        courseFault("bend 1 1 1 0;", 2, 11);
        courseFault("bend 1 1 1 100;", 2, 11);
        courseFault("runner a 21 1;", 2, 9);
        courseFault("runner a 20 10;", 2, 12);
        courseFault("ice 1;ice 1;", 3, 6);
        courseFault("ice 1;ice x", 3, 6);
        courseFault("man a 1 1 50;man a x", 3, 17);
        courseFault("man a 1 1 50;runner a 1 1;", 3, 20);
        courseFault("runner a 1 1;man a 1 1 50;", 3, 17);
        courseFault("man number 1 1 50;", 1, 4);
        courseFault("man start 1 1 50;", 1, 4);
        courseFault("man yards 1 1 50;", 1, 4);
        courseFault("runner or 1 1;", 1, 7);
        courseFault("man 1 1 1 50;", 1, 4);
        courseFault("man abcdefgh 1 1 50;", 1, 4);
        courseFault("man a1 1 1 50;", 1, 4);
        courseFault("ice 1000;", 1, 4);
        courseFault("ice 1a;", 1, 4);
        courseFault("ice x;", 1, 4);
        courseFault("ice", 1, 3);
        courseFault("ice 1 ", 1, 6);
        courseFault("ice 1;;", 1, 6);
        courseFault("ice 1,", 1, 5);
        courseFault("ice\t1;", 1, 3);
        courseFault("crew a b c d;", 1, 0);
        courseFault("a 1;", 1, 0);
        courseFault(many("man", 12, " 1 1 50;") + " man", 4, 12 * 13 + 1);
        courseFault("bend 1 0 0 1;".repeat(13), 4, 12 * 13);
        courseFault(many("runner", 7, " 0 0;"), 4, 6 * 13);
        courseFault(" ".repeat(901), 1, 900);
        courseFault("ice 1;" + " ".repeat(895), 1, 900);
        courseFault("ice 1;" + " ".repeat(890) + "ice 1;", 3, 896);
        courseFault(" ".repeat(895) + "ice 10;", 2, 899);
        courseFault(" ".repeat(895) + "warm 4;", 1, 900);
        courseFault(" ".repeat(899) + "sledge 99;", 1, 900);
        courseFault(" ".repeat(899) + "sledges 99;", 1, 899);
        due("900 bytes", Texts.course(new FourSledge(), " ".repeat(894) + "ice 1;"), 1);
    }

    private static void promise5() {
        FourSledge x = new FourSledge();
        Texts.course(x, COURSE);
        due("a PLAN's LINES", Texts.plan(x, "lead 99;crew d b a c;jump b 0;jump d 4;high 1 9;high 0 0;on r;start 60;"), 8);
        due("lead", x.count(8), 99);
        due("RUNNER", x.count(9), 1);
        due("number", x.count(10), 60);
        due("place of d", x.man(3, 3), 0);
        due("YARD of d", x.man(3, 4), 4);
        due("YARD of b", x.man(1, 4), 0);
        due("YARD of a, untold", x.man(0, 4), 4);
        due("HEIGHT 0", x.bend(0, 4), 0);
        due("HEIGHT 1", x.bend(1, 4), 9);
        x.set(0, 1);
        due("an empty PLAN", Texts.plan(x, ""), 0);
        due("without crew", x.count(11), 0);
        due("without lead", x.count(8), 0);
        due("on the first", x.count(9), 0);
        due("number 1", x.count(10), 1);
        due("HEIGHT is LINE", x.bend(0, 4), 4);
        due("undo() is forgotten", x.undo(), -1);
        planFaults();
    }

    private static void planFaults() {
        planFault("crew a b c;", 1, 10);
        planFault("crew a b c d e;", 1, 13);
        planFault("crew a b a d;", 3, 9);
        planFault("crew a b e d;", 3, 9);
        planFault("crew a b v d;", 3, 9);
        planFault("crew a b ice d;", 1, 9);
        planFault("crew a b 1 d;", 1, 9);
        planFault(CREW + CREW, 3, 13);
        planFault("jump a 1;" + CREW, 3, 5);
        planFault(CREW + "jump e 1;", 3, 18);
        planFault(CREW + "jump v 1;", 3, 18);
        planFault(CREW + "jump 1 1;", 1, 18);
        planFault(CREW + "jump a 5;", 2, 20);
        planFault(CREW + "jump a b;", 1, 20);
        planFault(CREW + "jump a 1;jump a 2;", 3, 27);
        planFault("lead 100;", 2, 5);
        planFault("lead 1;lead 1;", 3, 7);
        planFault("high 2 1;", 2, 5);
        planFault("high 1 10;", 2, 7);
        planFault("high 1 1;high 1 2;", 3, 14);
        planFault("high a 2;", 1, 5);
        planFault("on a;", 3, 3);
        planFault("on x;", 3, 3);
        planFault("on on;", 1, 3);
        planFault("on v;on v;", 3, 5);
        planFault("start 0;", 2, 6);
        planFault("start 61;", 2, 6);
        planFault("start 1;start 1;", 3, 8);
        planFault("yards 5;", 1, 0);
        planFault("lead 1", 1, 6);
        planFault(" ".repeat(401), 1, 400);
        planFault(" ".repeat(396) + "lead 1;", 1, 400);
        planFault(" ".repeat(395) + "jump a 1;", 1, 400);
        planFault(" ".repeat(394) + "jump a 1;", 3, 399);
        due("400 bytes", Texts.plan(nobody(), " ".repeat(393) + "lead 1;"), 1);
        FourSledge ahead = new FourSledge();
        Texts.course(ahead, "man e 1 1 50;" + COURSE);
        due("a MAN not of the crew", Texts.plan(ahead, CREW + "jump e 1;"), -19);
        due("a MAN not of the crew: kind", ahead.fault(), 3);
    }

    private static void promise6() {
        FourSledge x = new FourSledge();
        due("ahead of any", x.fault(), 0);
        Texts.course(x, "ice 10;");
        due("course()", x.fault(), 2);
        Texts.plan(x, "lead");
        due("plan()", x.fault(), 1);
        Texts.sentence(x, "ahead a");
        due("sentence()", x.fault(), 3);
        Texts.tape(x, "abcd");
        x.runs();
        x.feed(0, 0, 0, 0, 0);
        due("stays", x.fault(), 3);
        x.end(0);
        due("an empty PLAN", x.plan(), 0);
        due("without one", x.fault(), 0);
    }

    private static void promise7() {
        FourSledge x = down();
        int[][] men = {{9, 9, 100, 0, 1}, {8, 9, 90, 1, 2}, {7, 5, 70, 2, 3}, {6, 9, 110, 3, 4}};
        for (int m = 0; m < 4; m++) {
            for (int what = 0; what < 5; what++) {
                due("man(" + m + ", " + what + ")", x.man(m, what), men[m][what]);
            }
        }
        due("man(4, 0)", throwsNone(x, 4, 0), true);
        due("man(-1, 0)", throwsNone(x, -1, 0), true);
        due("man(0, 5)", throwsNone(x, 0, 5), true);
        due("man(0, -1)", throwsNone(x, 0, -1), true);
        due("man(3, 4)", throwsNone(x, 3, 4), false);
        FourSledge none = nobody();
        due("no place", none.man(0, 3), -1);
        due("no YARD", none.man(0, 4), -1);
        due("PUSH all the same", none.man(0, 0), 9);
    }

    private static void promise8() {
        FourSledge x = down();
        int[][] bends = {{2, 2, 4, 40, 4}, {3, 5, 2, 9, 1}};
        for (int b = 0; b < 2; b++) {
            for (int what = 0; what < 5; what++) {
                due("bend(" + b + ", " + what + ")", x.bend(b, what), bends[b][what]);
            }
        }
        due("bend(2, 0)", x.bend(2, 0), -1);
        due("bend(-1, 0)", x.bend(-1, 0), -1);
        due("bend(0, 5)", x.bend(0, 5), -1);
        due("bend(0, -1)", x.bend(0, -1), -1);
    }

    private static void promise9() {
        FourSledge x = down();
        due("BEST", x.runner(1, 0), 10);
        due("BAD", x.runner(1, 1), 2);
        due("takes none", x.runner(0, 2), 0);
        due("takes 2 * 4 / 4", x.runner(1, 2), 2);
        x.set(2, 3);
        due("takes 4 * 1 / 4", x.runner(0, 2), 1);
        due("takes 2 * 3 / 4, cut", x.runner(1, 2), 1);
        x.set(2, 30);
        due("takes 4 * 10 / 4", x.runner(0, 2), 10);
        due("takes 2 * 6 / 4", x.runner(1, 2), 3);
        due("runner(2, 0)", x.runner(2, 0), -1);
        due("runner(-1, 0)", x.runner(-1, 0), -1);
        due("runner(0, 3)", x.runner(0, 3), -1);
        due("runner(0, -1)", x.runner(0, -1), -1);
    }

    private static void promise10() {
        FourSledge x = down();
        int[] start = {197, 83, 11, 4, 500, -1};
        for (int what = 0; what < start.length; what++) {
            due("start(" + what + ")", x.start(what), start[what]);
        }
        due("start(-1)", x.start(-1), -1);
        x.set(0, 50);
        due("WEIGHT with lead", x.start(4), 550);
        due("TIME with lead", x.start(0), 197);
        due("no crew", nobody().start(0), -1);
        // YARD 0: 56, c in 54, TIME 55; 73, a in 67, 44; 76, b in 70, 42; 70, 42; 70, d in 68, 44.
        x.jump(2, 0);
        int[] all = {227, 68, 15, 0, 620};
        for (int what = 0; what < all.length; what++) {
            due("all in: start(" + what + ")", x.start(what), all[what]);
        }
        // FEET 1 alike: nobody pushes from 30 down; PACE is 26, 22, 18, 14, 10, and 10 at least behind the jumps.
        String men = "man a 9 1 50;man b 9 1 50;man c 9 1 50;man d 9 1 50;";
        FourSledge slow = told("yards 5;" + men, CREW);
        due("slow TIME", slow.start(0), 115 + 136 + 166 + 214 + 300);
        due("slow PACE", slow.start(1), 10);
        due("slow, all in", slow.start(2), 15);
        // One YARD more: below 12 all push, 42 then, and all are LATE.
        FourSledge left = told("yards 6;" + men, CREW);
        due("left TIME", left.start(0), 115 + 136 + 166 + 214 + 300 + 71);
        due("left PACE", left.start(1), 42);
        due("nobody in", left.start(2), 0);
        due("all LATE", left.start(3), 15);
        due("WEIGHT of the sledge", left.start(4), 210);
    }

    private static void promise11() {
        FourSledge x = down();
        int[] paces = {56, 80, 83, 84, 83, -1};
        for (int y = 0; y < paces.length; y++) {
            due("pace(" + y + ")", x.pace(y), paces[y]);
        }
        due("pace(-1)", x.pace(-1), -1);
        due("no crew", nobody().pace(0), -1);
        FourSledge late = told("yards 5;man a 9 9 50;man b 9 9 50;man c 9 9 50;man d 9 1 50;", CREW + "jump d 1;");
        // d does not push at 30 (12 is not above it), is LATE at 76 and pushes no more.
        due("pace without d's push", late.pace(0), 53);
        due("d is LATE", late.jumps(3), 2);
        due("pace behind it", late.pace(1), 76);
    }

    private static void promise12() {
        FourSledge x = down();
        int[] how = {0, 1, 2, 0, -1};
        for (int c = 0; c < how.length; c++) {
            due("jumps(" + c + ")", x.jumps(c), how[c]);
        }
        due("jumps(-1)", x.jumps(-1), -1);
        due("no crew", nobody().jumps(0), -1);
        // All at the line: the first in the crew's order is CLEAN.
        FourSledge alike = told("yards 5;man a 1 9 50;man b 1 9 50;man c 1 9 50;man d 1 9 50;", "crew d c b a;");
        due("first of four", alike.jumps(0), 0);
        due("second of four", alike.jumps(1), 1);
        due("fourth of four", alike.jumps(3), 1);
        // Just not LATE: 12 * 5 + 20 = 80 is not below 80.
        FourSledge edge = told("yards 5;man a 9 9 50;man b 9 9 50;man c 9 9 50;man d 3 5 50;", CREW + "jump d 1;");
        due("PACE 30 + 30 - 4, + 30 - 4 = 82: LATE", edge.jumps(3), 2);
        edge = told("yards 5;man a 9 9 50;man b 9 9 50;man c 9 9 50;man d 2 5 50;", CREW + "jump d 1;");
        due("PACE 80: not LATE", edge.jumps(3), 0);
    }

    private static void promise13() {
        FourSledge x = down();
        int[] run = {358, 99, 2, -1, -1};
        for (int what = 0; what < run.length; what++) {
            due("run(" + what + ")", x.run(what), run[what]);
        }
        due("run(-1)", x.run(-1), -1);
        FourSledge turned = over();
        int[] upside = {-1, 104, 1, 1};
        for (int what = 0; what < upside.length; what++) {
            due("OVER: run(" + what + ")", turned.run(what), upside[what]);
        }
        FourSledge heavy = told(COURSE.replace("most 800", "most 499"), PLAN);
        int[] stays = {-1, 83, 0, -1};
        for (int what = 0; what < stays.length; what++) {
            due("heavy: run(" + what + ")", heavy.run(what), stays[what]);
        }
        due("just not too heavy", told(COURSE.replace("most 800", "most 500"), PLAN).run(0), 358);
        due("no crew", nobody().run(0), -1);
        due("no crew, gone", nobody().run(2), -1);
        due("no BENDS", told(COURSE.replace("bend 2 2 4 40;bend 3 5 2 9;", ""), OVER).run(0), 197);
        // 104 * 2 = 208 is above 20 * 10, not above 20 * 11.
        due("OVER 10", told(COURSE.replace("2 9;", "2 10;"), OVER).run(3), 1);
        due("OVER 11", told(COURSE.replace("2 9;", "2 11;"), OVER).run(3), -1);
        String edge = "yards 5;sledge 200;most 800;ice 0;man a 9 9 100;man b 8 9 90;man c 7 5 70;man d 6 9 110;"
            + "bend 1 2 5 99;bend 7 5 5 25;";
        FourSledge even = told(edge.replace("bend 7 5", "bend 7 3").replace("5 25", "5 24"), OVER);
        due("83 + 10 - 10 + 15 = 98: 490 above 480", even.run(3), 1);
        even = told(edge.replace("bend 1 2", "bend 1 4").replace("bend 7 5", "bend 7 1").replace("5 25", "5 24"),
            OVER + "lead 66;");
        // 83 + 4 * 566 / 100 - 10 = 95, + 5 = 100: 500 above 480.
        due("100: 500 above 480", even.run(3), 1);
        even = told(edge.replace("bend 1 2", "bend 1 4").replace("bend 7 5", "bend 7 1"), OVER + "lead 66;");
        due("100: 500 not above 500", even.run(3), -1);
        due("TIME 31 and 210", even.run(0), 197 + 31 + 210);
        // r takes 2: BEND 0: 82, TIME 73; BEND 1: 82 + 25 - 10 - 2 = 95, TIME 94.
        x.set(1, 1);
        due("on r", x.run(0), 197 + 73 + 94);
    }

    private static void promise14() {
        FourSledge x = down();
        due("behind(0)", x.behind(0), 84);
        due("behind(1)", x.behind(1), 99);
        due("behind(2)", x.behind(2), -1);
        due("behind(-1)", x.behind(-1), -1);
        due("where it turns OVER", over().behind(1), -1);
        due("ahead of that", over().behind(0), 84);
        due("no crew", nobody().behind(0), -1);
        due("too heavy", told(COURSE.replace("most 800", "most 499"), PLAN).behind(0), -1);
        FourSledge fast = told("yards 5;most 900;man a 9 9 150;man b 9 9 150;man c 9 9 150;man d 9 9 150;"
            + "bend 9 9 0 99;bend 9 9 0 99;bend 9 9 0 99;bend 9 9 0 99;bend 9 0 9 99;", CREW + "high 4 0;start 60;");
        due("250 at most", fast.behind(3), 250);
        due("less again: 250 - 27 - 2 - 12", fast.behind(4), 209);
        FourSledge slow = told("yards 5;man a 1 1 50;man b 1 1 50;man c 1 1 50;man d 1 1 50;bend 1 0 9 99;",
            CREW + "start 60;");
        due("10 at least", slow.behind(0), 10);
    }

    private static void promise15() {
        FourSledge x = down();
        due("jump(2, 0)", x.jump(2, 0), true);
        due("again", x.jump(2, 0), false);
        due("its YARD", x.man(2, 4), 0);
        due("TIME", x.run(0), 414);
        due("jump(4, 0)", x.jump(4, 0), false);
        due("jump(-1, 0)", x.jump(-1, 0), false);
        due("jump(0, 5)", x.jump(0, 5), false);
        due("jump(0, -1)", x.jump(0, -1), false);
        due("the last YARD", x.jump(0, 4), true);
        due("no crew", nobody().jump(0, 0), false);
        due("those alone can be undone", x.undo(), 1);
    }

    private static void promise16() {
        FourSledge x = over();
        due("high(1, 1)", x.high(1, 1), true);
        due("again", x.high(1, 1), false);
        due("TIME", x.run(0), 358);
        due("high(0, 9)", x.high(0, 9), true);
        due("high(0, 10)", x.high(0, 10), false);
        due("high(0, -1)", x.high(0, -1), false);
        due("high(2, 0)", x.high(2, 0), false);
        due("high(-1, 0)", x.high(-1, 0), false);
        due("HEIGHT", x.bend(0, 4), 9);
        FourSledge none = nobody();
        due("as its LINE", none.high(0, 4), false);
        due("without a crew", none.high(0, 0), true);
        due("without a crew: HEIGHT", none.bend(0, 4), 0);
    }

    private static void promise17() {
        FourSledge x = down();
        due("lead as it is", x.set(0, 0), false);
        due("lead 99", x.set(0, 99), true);
        due("lead 100", x.set(0, 100), false);
        due("lead -1", x.set(0, -1), false);
        due("lead 0 again", x.set(0, 0), true);
        due("lead 99 again", x.set(0, 99), true);
        due("RUNNER as it is", x.set(1, 0), false);
        due("RUNNER 1", x.set(1, 1), true);
        due("RUNNER 2", x.set(1, 2), false);
        due("RUNNER -1", x.set(1, -1), false);
        due("number as it is", x.set(2, 1), false);
        due("number 60", x.set(2, 60), true);
        due("number 61", x.set(2, 61), false);
        due("number 0", x.set(2, 0), false);
        due("what 3", x.set(3, 1), false);
        due("what -1", x.set(-1, 1), false);
        due("lead", x.count(8), 99);
        due("RUNNER", x.count(9), 1);
        due("number", x.count(10), 60);
        due("RUNNER 0 again", x.set(1, 0), true);
        due("six can be undone", x.undo(), 5);
        FourSledge none = nobody();
        due("no crew: lead", none.set(0, 1), true);
        due("no crew: RUNNER", none.set(1, 1), true);
        due("no crew: number", none.set(2, 2), true);
        due("no RUNNERS", new FourSledge().set(1, 0), false);
        due("no RUNNERS, NONE", new FourSledge().set(1, -1), false);
    }

    private static void promise18() {
        FourSledge x = down();
        due("swap(0, 3)", x.swap(0, 3), true);
        due("a's place", x.man(0, 3), 3);
        due("d's place", x.man(3, 3), 0);
        due("a's YARD", x.man(0, 4), 1);
        due("d's YARD", x.man(3, 4), 4);
        due("who is in", x.start(2), 11);
        due("how d jumps", x.jumps(0), 0);
        due("alike", x.swap(1, 1), false);
        due("swap(3, 0) back and again", x.swap(3, 0) && x.swap(0, 3), true);
        x.undo();
        x.undo();
        due("swap(0, 4)", x.swap(0, 4), false);
        due("swap(4, 0)", x.swap(4, 0), false);
        due("swap(-1, 0)", x.swap(-1, 0), false);
        due("swap(0, -1)", x.swap(0, -1), false);
        due("no crew", nobody().swap(0, 1), false);
        due("undo", x.undo(), 0);
        due("a's place then", x.man(0, 3), 0);
    }

    private static void promise19() {
        FourSledge x = down();
        due("none", x.undo(), -1);
        for (int n = 2; n <= 11; n++) {
            x.set(2, n);
        }
        for (int left = 7; left >= 0; left--) {
            due("undo", x.undo(), left);
            due("the number then", x.count(10), left + 3);
        }
        due("eight at most", x.undo(), -1);
        due("the number stays", x.count(10), 3);
        x.jump(0, 0);
        x.high(0, 0);
        x.swap(0, 1);
        due("swap undone", x.undo(), 2);
        due("a's place", x.man(0, 3), 0);
        due("high undone", x.undo(), 1);
        due("HEIGHT", x.bend(0, 4), 4);
        due("jump undone", x.undo(), 0);
        due("a's YARD", x.man(0, 4), 1);
        x.best();
        x.take(1);
        due("take undone", x.undo(), 0);
        due("a's YARD then", x.man(0, 4), 1);
        x.set(0, 3);
        Texts.plan(x, PLAN);
        due("a PLAN that is told", x.undo(), -1);
    }

    /** The least TIME over all YARDS, by the class's own answers to PLANS; the first in the document's order. */
    private static int[] leastJumps(String course, int yards) {
        int[] best = null;
        String bestOrder = "";
        for (int i = 0; i < yards * yards * yards * yards; i++) {
            int[] y = {i % yards, i / yards % yards, i / yards / yards % yards, i / yards / yards / yards};
            char[] order = "0".repeat(yards).toCharArray();
            for (int c = 0; c < 4; c++) {
                order[y[c]] = (char) ('1' + c);
            }
            String text = new String(order);
            if (text.replace("0", "").length() < 4) {
                continue;
            }
            FourSledge x = told(course, CREW + "jump a " + y[0] + ";jump b " + y[1] + ";jump c " + y[2]
                + ";jump d " + y[3] + ";high 1 1;");
            int time = x.run(0);
            boolean less = best == null || time < best[0] || time == best[0] && text.compareTo(bestOrder) < 0;
            if (x.start(2) == 15 && time >= 0 && less) {
                best = new int[] {time, y[0], y[1], y[2], y[3]};
                bestOrder = text;
            }
        }
        return best;
    }

    private static void promise20and21() {
        due("ahead of any", down().when(0), -1);
        String course = COURSE.replace("yards 5", "yards 6");
        int[] least = leastJumps(course, 6);
        FourSledge x = told(course, CREW + "jump a 1;jump b 1;high 1 1;");
        due("best()", x.best(), least[0]);
        for (int c = 0; c < 4; c++) {
            due("when(" + c + ")", x.when(c), least[1 + c]);
        }
        due("when(4)", x.when(4), -1);
        due("when(-1)", x.when(-1), -1);
        due("planned is what was", x.man(0, 4), 1);
        // Alike ones: the later ones ahead, then by the crew's order.
        FourSledge alike = told("yards 9;most 900;man a 5 9 50;man b 5 9 50;man c 5 9 50;man d 5 9 50;", "crew d c b a;");
        due("alike: best()", alike.best() > 0, true);
        for (int c = 0; c < 3; c++) {
            due("alike: the crew's order", alike.when(c) < alike.when(c + 1), true);
        }
        due("no crew", nobody().best(), -1);
        FourSledge heavy = told(COURSE.replace("most 800", "most 569"), PLAN);
        due("above 'most'", heavy.best(), -1);
        due("above 'most': when", heavy.when(0), -1);
        due("just not above 'most'", told(COURSE.replace("most 800", "most 570"), PLAN).best() > 0, true);
        FourSledge turned = told(COURSE.replace("2 9;", "2 1;"), OVER + "high 1 9;");
        due("always OVER", turned.best(), -1);
        // Nobody can follow: c's FEET are too few from the first YARD on.
        FourSledge late = told("yards 5;most 900;man a 9 9 50;man b 9 9 50;man c 9 1 50;man d 9 9 50;", CREW);
        due("c is LATE always", late.best(), -1);
        x.set(0, 99);
        Texts.plan(x, "");
        due("NONE without a crew", x.best(), -1);
        due("the latest that was not NONE", x.when(0), least[1]);
        Texts.course(x, "ice 1;");
        due("of an older COURSE, too", x.when(0), least[1]);
    }

    private static int[] leastHeights(String course) {
        int[] best = null;
        for (int i = 0; i < 100; i++) {
            FourSledge x = told(course, OVER + "high 0 " + i / 10 + ";high 1 " + i % 10 + ";");
            int time = x.run(0);
            if (time >= 0 && (best == null || time < best[0])) {
                best = new int[] {time, i / 10, i % 10};
            }
        }
        return best;
    }

    private static void promise22and23() {
        due("ahead of any", down().height(0), -1);
        for (int drop = 0; drop <= 9; drop += 3) {
            for (int ideal = 0; ideal <= 9; ideal++) {
                String course = COURSE.replace("bend 2 2 4 40", "bend 2 " + drop + " " + ideal + " 40");
                int[] least = leastHeights(course);
                FourSledge x = told(course, OVER);
                due("line() by LINE " + ideal, x.line(), least[0]);
                due("height(0) by LINE " + ideal, x.height(0), least[1]);
                due("height(1) by LINE " + ideal, x.height(1), least[2]);
                due("planned is what was", x.bend(0, 4), ideal);
            }
        }
        FourSledge x = down();
        x.line();
        due("height(2)", x.height(2), -1);
        due("height(-1)", x.height(-1), -1);
        int first = x.height(0);
        due("no crew", nobody().line(), -1);
        FourSledge heavy = told(COURSE.replace("most 800", "most 499"), PLAN);
        due("above 'most'", heavy.line(), -1);
        due("above 'most': height", heavy.height(0), -1);
        // BENDS that cost nothing either way: the lesser HEIGHTS are the first.
        FourSledge flat = told("yards 5;man a 1 1 50;man b 1 1 50;man c 1 1 50;man d 1 1 50;bend 1 0 5 99;", CREW);
        due("10 at least, whatever the HEIGHT", flat.line(), flat.run(0));
        due("the first of like ones", flat.height(0), 0);
        FourSledge straight = told(COURSE.replace("bend 2 2 4 40;bend 3 5 2 9;", ""), OVER);
        due("no BENDS", straight.line(), 197);
        due("no BENDS: height(0)", straight.height(0), -1);
        due("no BENDS: taken", straight.take(0), true);
        due("just not above 'most'", told(COURSE.replace("most 800", "most 500"), PLAN).line(), x.line());
        FourSledge fast = told("yards 5;most 900;ice 0;man a 9 9 150;man b 9 9 150;man c 9 9 150;man d 9 9 150;"
            + "bend 9 9 0 99;".repeat(6), CREW);
        due("250 at most: line()", fast.line(), fast.run(0));
        due("250 at most", fast.behind(5), 250);
        FourSledge many = told("yards 5;most 900;man a 9 9 50;man b 9 9 50;man c 9 9 50;man d 9 9 50;"
            + "bend 1 1 3 99;".repeat(12), CREW);
        due("twelve BENDS", many.line() > 0, true);
        many.take(0);
        due("twelve BENDS: planned", many.run(0), many.line());
        due("the twelfth", many.height(11), many.bend(11, 4));
        Texts.plan(x, "");
        due("NONE without a crew", x.line(), -1);
        due("the latest that was not NONE", x.height(0), first);
    }

    private static void promise24() {
        FourSledge x = down();
        due("ahead of line()", x.take(0), false);
        due("ahead of best()", x.take(1), false);
        int best = x.best();
        due("ahead of line() still", x.take(0), false);
        due("best() is taken", x.take(1), true);
        due("and planned", x.run(0), best);
        due("YARD", x.man(0, 4), x.when(0));
        int line = x.line();
        due("line() is taken", x.take(0), true);
        due("and planned", x.run(0), line);
        due("HEIGHT", x.bend(0, 4), x.height(0));
        due("what 2", x.take(2), false);
        due("what -1", x.take(-1), false);
        due("taken again", x.take(0), true);
        due("three can be undone", x.undo(), 2);
        x.swap(0, 1);
        due("another crew", x.take(1), false);
        due("another crew: line", x.take(0), false);
        x.swap(0, 1);
        due("the crew again", x.take(1), true);
        Texts.plan(x, "");
        due("no crew", x.take(1), false);
        due("no crew: line", x.take(0), false);
        Texts.plan(x, PLAN);
        due("another PLAN, the same crew", x.take(1), true);
        x.image(0);
        Texts.course(x, COURSE);
        Texts.plan(x, PLAN);
        due("another COURSE", x.take(1), false);
        due("another COURSE: line", x.take(0), false);
        x.restore(0);
        due("the COURSE again", x.take(1), true);
    }

    private static void promise25() {
        String six = COURSE + "man e 9 9 60;man f 8 8 60;";
        FourSledge x = told(six, "");
        int least = Integer.MAX_VALUE;
        int set = -1;
        String names = "abcdef";
        x.high(1, 0);
        for (int a = 0; a < 6; a++) {
            for (int b = a + 1; b < 6; b++) {
                for (int c = b + 1; c < 6; c++) {
                    for (int d = c + 1; d < 6; d++) {
                        FourSledge y = told(six, "high 1 0;crew " + names.charAt(a) + " " + names.charAt(b) + " "
                            + names.charAt(c) + " " + names.charAt(d) + ";");
                        int time = y.best();
                        if (time >= 0 && time < least) {
                            least = time;
                            set = 1 << a | 1 << b | 1 << c | 1 << d;
                        }
                    }
                }
            }
        }
        due("four()", x.four(), set);
        due("no crew is planned by it", x.count(11), 0);
        due("best() told nothing", x.when(0), -1);
        String alike = "most 900;yards 5;" + many("man", 6, " 5 5 60;");
        due("alike: the first set", told(alike, "").four(), 15);
        due("more than 6", told(alike + "man g 5 5 60;", "").four(), -1);
        due("three MEN", told("man a 5 5 60;man b 5 5 60;man c 5 5 60;", "").four(), -1);
        due("all too heavy", told("most 300;" + many("man", 5, " 5 5 60;"), "").four(), -1);
        // Only one set is light enough: 210 + 4 * 50.
        due("the light ones", told("most 410;yards 5;man a 9 9 60;man b 5 5 50;man c 5 5 50;man d 5 5 50;"
            + "man e 5 5 50;", "").four(), 30);
    }

    private static void promise26() {
        FourSledge x = down();
        // WEIGHT 599: 85, TIME 70; 85 + 29 - 10 = 104, TIME 86.
        due("kilo(99)", x.kilo(99), 5);
        due("kilo(1)", x.kilo(1), 0);
        due("kilo(100)", x.kilo(100), NO);
        due("kilo(0)", x.kilo(0), NO);
        due("kilo(-5)", x.kilo(-5), NO);
        due("kilo(most)", x.kilo(Integer.MAX_VALUE), NO);
        due("lead is as it was", x.count(8), 0);
        x.set(0, 1);
        due("lead above 99", x.kilo(99), NO);
        due("lead just 99", x.kilo(98), 5);
        due("no TIME without", over().kilo(1), NO);
        FourSledge heavy = told(COURSE.replace("most 800", "most 501"), PLAN);
        due("above 'most' with it", heavy.kilo(2), NO);
        due("just not above 'most'", heavy.kilo(1), 0);
        due("no crew", nobody().kilo(1), NO);
    }

    private static void promise27() {
        FourSledge x = down();
        due("runners()", x.runners(), 0);
        x.set(2, 30);
        due("by number 30", x.runners(), 1);
        due("planned is what was", x.count(9), 0);
        due("none has a TIME", told(COURSE.replace("2 9;", "2 1;"), OVER + "high 1 9;").runners(), -1);
        due("no crew", nobody().runners(), -1);
        due("no RUNNERS", told(COURSE.replace("runner v 6 4;runner r 10 2;", ""), PLAN).runners(), -1);
        due("alike: the first", told(COURSE.replace("runner v 6 4;runner r 10 2;",
            "runner p 9 9;runner q 6 4;runner s 6 4;"), PLAN).runners(), 1);
    }

    private static int runs(FourSledge x, String numbers) {
        Texts.tape(x, numbers);
        return x.runs();
    }

    private static void promise28() {
        FourSledge x = down();
        // By number 30: 68, TIME 88; 67, TIME 134: 419 in all.
        due("30, 1, 1, 1", runs(x, "\u001e\u0001\u0001\u0001"), 419 + 3 * 358);
        due("1, 1, 1, 30", runs(x, "\u0001\u0001\u0001\u001e"), 419 + 3 * 358);
        due("the tape", x.count(12), 0);
        due("the number planned", x.count(10), 1);
        due("three", runs(x, "\u0001\u0001\u0001"), -1);
        due("the tape behind three", x.count(12), 0);
        due("five", runs(x, "\u0001\u0001\u0001\u0001\u0001"), -1);
        due("none", runs(x, ""), -1);
        due("0", runs(x, "\u0001\u0001\u0001\u0000"), -1);
        due("60", runs(x, "\u003c\u0001\u0001\u0001") > 0, true);
        due("61", runs(x, "\u003d\u0001\u0001\u0001"), -1);
        due("a byte of 255", runs(x, "\u0001\u0001\u0001\u00ff"), -1);
        due("no TIME", runs(over(), "\u0001\u0001\u0001\u0001"), -1);
        FourSledge none = nobody();
        due("no crew", runs(none, "\u0001\u0001\u0001\u0001"), -1);
        due("no crew: the tape", none.count(12), 0);
    }

    private static void promise29() {
        FourSledge x = down();
        due("worth(1, 30)", x.worth(1, 30), 419 - 358);
        due("worth(30, 1)", x.worth(30, 1), 358 - 419);
        due("worth(7, 7)", x.worth(7, 7), 0);
        due("worth(0, 1)", x.worth(0, 1), NO);
        due("worth(1, 0)", x.worth(1, 0), NO);
        due("worth(61, 1)", x.worth(61, 1), NO);
        due("worth(1, 61)", x.worth(1, 61), NO);
        due("worth(60, 60)", x.worth(60, 60), 0);
        due("the number planned", x.count(10), 1);
        due("no TIME", over().worth(1, 1), NO);
        due("one has none", over().worth(60, 1), NO);
        due("no crew", nobody().worth(1, 2), NO);
    }

    private static void promise30() {
        FourSledge x = down();
        due("none is kept", x.lost(3), NO);
        due("keep()", x.keep(), true);
        due("lost(3)", x.lost(3), 0);
        x.set(2, 30);
        due("lost by the number", x.lost(3), 419 - 358);
        due("kept anew", x.keep(), true);
        due("none lost then", x.lost(3), 0);
        x.undo();
        due("kept behind undo()", x.lost(3), 358 - 419);
        Texts.plan(x, "");
        due("no crew", x.keep(), false);
        Texts.plan(x, PLAN);
        due("kept behind plan()", x.lost(3), 358 - 419);
        due("no crew at all", nobody().keep(), false);
    }

    private static void promise31() {
        FourSledge x = down();
        x.keep();
        x.jump(2, 0);
        // Now 227 at the line with 68, WEIGHT 570: 70, TIME 85; 88, TIME 102: 414 in all.
        // The kept one with 68: 69, TIME 86; 84, TIME 107: 193 down, else 161.
        int[] lost = {30, 32, -6, 56};
        for (int what = 0; what < lost.length; what++) {
            due("lost(" + what + ")", x.lost(what), lost[what]);
        }
        due("lost(4)", x.lost(4), NO);
        due("lost(-1)", x.lost(-1), NO);
        x.high(1, 9);
        due("no TIME now", x.lost(0), NO);
        x.keep();
        x.undo();
        due("the kept one has none", x.lost(0), NO);
        Texts.plan(x, "");
        due("no crew", x.lost(3), NO);
        // Kept: all early, slow at the line, HEIGHT 9 goes well; the PLAN's PACE is too much for it.
        FourSledge fast = told("yards 5;most 900;man a 9 9 50;man b 9 9 50;man c 9 9 50;man d 9 9 50;bend 1 0 9 12;",
            CREW + "jump a 0;jump b 0;jump c 0;jump d 0;");
        due("the kept one's TIME", fast.run(0) > 0, true);
        fast.keep();
        Texts.plan(fast, CREW + "jump a 1;jump b 2;jump c 3;jump d 4;high 0 0;");
        due("the PLAN's TIME", fast.run(0) > 0, true);
        due("none with the PLAN's PACE", fast.lost(3), NO);
        due("none with the PLAN's PACE, on the start", fast.lost(0), NO);
    }

    private static void promise32() {
        FourSledge x = down();
        // 84 - 9 = 75, TIME 80; 75 + 15 = 90, TIME 100.
        due("touch(0, 9)", x.touch(0, 9), 377 - 358);
        due("touch(1, 4)", x.touch(1, 4), 4);
        due("10 at least", x.touch(0, 99), 197 + 600 + 360 - 358);
        due("touch(0, 0)", x.touch(0, 0), NO);
        due("touch(0, 100)", x.touch(0, 100), NO);
        due("touch(2, 1)", x.touch(2, 1), NO);
        due("touch(-1, 1)", x.touch(-1, 1), NO);
        due("the run is as it was", x.run(0), 358);
        due("touched again", x.touch(1, 4), 4);
        x.keep();
        due("what is kept is not touched", x.lost(3), 0);
        due("touch(0, 1): 83, TIME 72; 98, TIME 91", x.touch(0, 1), 2);
        due("no TIME without", over().touch(0, 99), NO);
        due("no crew", nobody().touch(0, 1), NO);
        due("not a whole bend: OVER is looked at ahead of it", told(COURSE.replace("2 9;", "2 10;"), OVER)
            .touch(1, 50), NO);
    }

    private static void promise33() {
        FourSledge x = down();
        // 5 draws 0, 2, 7, 7: a kicks, so c gets in: 228 at the line with 62, WEIGHT 570, 93 and 109 down.
        due("drawn(5)", x.drawn(5), 430);
        // 4 draws 1, 0, 2, 0: b and d kick: 232 with 52, 111 and 125 down.
        due("drawn(4)", x.drawn(4), 468);
        due("drawn(2): none", x.drawn(2), 358);
        for (int seed = 0; seed < 8; seed++) {
            x.drawn(seed);
            due("the run is as it was behind seed " + seed, x.run(0), 358);
        }
        // The highest bit never reaches a draw.
        due("drawn(least)", x.drawn(Integer.MIN_VALUE), x.drawn(0));
        due("the run is as it was", x.run(0), 358);
        due("OVER", over().drawn(2), -1);
        due("no crew", nobody().drawn(2), -1);
    }

    private static void promise34() {
        FourSledge x = down();
        int[][] odds = {{358, 0}, {359, 2}, {430, 2}, {431, 3}, {469, 4}, {Integer.MAX_VALUE, 4},
            {Integer.MIN_VALUE, 0}};
        for (int[] o : odds) {
            due("odds(4, 2, " + o[0] + ")", x.odds(4, 2, o[0]), o[1]);
        }
        due("odds(0, 1, 1)", x.odds(0, 1, 1), -1);
        due("odds(61, 1, 1)", x.odds(61, 1, 1), -1);
        due("odds(60, 1, 9999)", x.odds(60, 1, 9999), 60);
        due("odds(-1, 1, 1)", x.odds(-1, 1, 1), -1);
        due("seeds go round", x.odds(2, Integer.MAX_VALUE, 359),
            (x.drawn(Integer.MAX_VALUE) < 359 ? 1 : 0) + (x.drawn(Integer.MIN_VALUE) < 359 ? 1 : 0));
        due("OVER has no TIME", over().odds(1, 2, 9999), 0);
        due("no crew", nobody().odds(1, 1, 1), -1);
    }

    private static void promise35() {
        due("room()", down().room(), 99);
        FourSledge x = told(COURSE.replace("most 800", "most 550"), PLAN);
        due("WEIGHT 500 of 550", x.room(), 50);
        x.set(0, 30);
        due("whatever the lead", x.room(), 50);
        x.jump(2, 0);
        due("with c in: none", x.room(), -1);
        due("just none", told(COURSE.replace("most 800", "most 500"), PLAN).room(), 0);
        due("above 'most'", told(COURSE.replace("most 800", "most 499"), PLAN).room(), -1);
        due("99 at most", told(COURSE.replace("most 800", "most 599"), PLAN).room(), 99);
        due("98", told(COURSE.replace("most 800", "most 598"), PLAN).room(), 98);
        due("no crew", nobody().room(), -1);
    }

    private static void promise36() {
        FourSledge x = down();
        due("a ONE", Texts.sentence(x, "crew"), 1);
        due("the tape", x.count(12), 0);
        due("not, brackets and others", Texts.sentence(x, "not(crew or gets)and not feet>1"), 6);
        due("20 ONES", Texts.sentence(x, "crew" + " or crew".repeat(19)), 20);
        due("8 within one another", Texts.sentence(x, "not ".repeat(7) + "crew"), 8);
        due("8 brackets and others", Texts.sentence(x, "(((((((crew)))))))"), 8);
        due("200 bytes", Texts.sentence(x, " ".repeat(196) + "crew"), 1);
        sentenceFault("crew" + " or crew".repeat(20), 4, 4 + 8 * 19 + 4);
        sentenceFault("crew" + " or crew".repeat(19) + " or ice", 1, 4 + 8 * 19 + 4);
        sentenceFault("not ".repeat(8) + "crew", 4, 32);
        sentenceFault("((((((((crew))))))))", 4, 8);
        sentenceFault("((((((((or", 1, 8);
        sentenceFault("", 1, 0);
        sentenceFault("  ", 1, 2);
        sentenceFault("crew crew", 1, 5);
        sentenceFault("crew;", 1, 4);
        sentenceFault("crew or", 1, 7);
        sentenceFault("(crew", 1, 5);
        sentenceFault("crew)", 1, 4);
        sentenceFault("()", 1, 1);
        sentenceFault("ahead", 1, 5);
        sentenceFault("ahead x", 3, 6);
        sentenceFault("ahead v", 3, 6);
        sentenceFault("ahead crew", 1, 6);
        sentenceFault("push 1", 1, 5);
        sentenceFault("push < a", 1, 7);
        sentenceFault("push <= 1", 1, 6);
        sentenceFault("push < 1000", 1, 7);
        sentenceFault("a", 1, 0);
        sentenceFault("number", 1, 6);
        sentenceFault("crew" + " ".repeat(197), 1, 200);
        sentenceFault(" ".repeat(197) + "crew or", 1, 200);
        sentenceFault(" ".repeat(193) + "ahead x", 3, 199);
        sentenceFault(" ".repeat(194) + "ahead x", 1, 200);
        due("a SENTENCE without a crew", Texts.sentence(nobody(), "ahead a"), 1);
    }

    private static void promise37() {
        due("no SENTENCE", down().said(-1), -1);
        due("no SENTENCE, first", down().said(0), -1);
        String course = COURSE + "man e 1 1 50;man f 2 2 60;";
        FourSledge x = told(course, PLAN);
        said(x, "crew", 1, 0, 1, 2, 3);
        said(x, "gets", 1, 0, 1, 3);
        said(x, "not crew", 2, 4, 5);
        said(x, "crew and not gets", 3, 2);
        said(x, "ahead c", 1, 0, 1);
        said(x, "ahead a", 1);
        said(x, "ahead e", 1);
        said(x, "push < 7", 1, 3, 4, 5);
        said(x, "feet = 9", 1, 0, 1, 3);
        said(x, "weight > 90", 1, 0, 3);
        said(x, "number > 3", 1, 4, 5);
        said(x, "number = 0", 1, 0);
        said(x, "number < 1 or number > 1 and number < 3", 3, 0, 2);
        said(x, "(number < 1 or number > 1) and number < 3", 4, 0, 2);
        said(x, "number = 5 or crew and gets", 3, 0, 1, 3, 5);
        said(x, "(number = 5 or crew) and gets", 4, 0, 1, 3);
        said(x, "not number = 1 and number < 3", 3, 0, 2);
        said(x, "not (number = 1 and number < 3)", 4, 0, 2, 3, 4, 5);
        said(x, "not not crew", 3, 0, 1, 2, 3);
        said(x, "weight > 999", 1);
        said(x, "gets", 1, 0, 1, 3);
        said(x, "number=9 or ".repeat(14) + "push=4", 15);
        said(x, "number=9 or ".repeat(14) + "feet=5", 15, 2);
        said(x, "(gets or crew or gets)and crew and crew and crew and crew and crew and crew and crew and crew and crew"
            + " and crew and crew and crew and crew and crew and crew", 19, 0, 1, 2, 3);
        said(x, "crew and crew and crew and crew and crew and crew and crew and crew and crew and crew and crew and crew"
            + " and crew and crew and crew and crew and crew and crew and crew and gets", 20, 0, 1, 3);
        said(x, "gets", 1, 0, 1, 3);
        due("said(-2)", x.said(-2), -1);
        due("said(least)", x.said(Integer.MIN_VALUE), -1);
        x.jump(2, 0);
        due("as planned now", x.said(-1), 4);
        Texts.plan(x, "");
        due("a SENTENCE stays behind plan()", x.said(-1), 0);
        said(x, "crew or ahead a", 2);
        Texts.course(x, course);
        due("none of another COURSE", x.said(-1), -1);
    }

    private static void promise38and39() {
        FourSledge x = down();
        due("nothing there", x.restore(0), false);
        x.keep();
        Texts.sentence(x, "gets");
        due("image(2)", x.image(2), false);
        due("image(-1)", x.image(-1), false);
        x.set(0, 0);
        x.set(2, 30);
        due("image(0)", x.image(0), true);
        due("image() leaves undo()", x.undo(), 0);
        x.set(2, 9);
        Texts.sentence(x, "number < 3");
        x.keep();
        due("image(1)", x.image(1), true);
        int best = x.best();
        int when = x.when(0);
        Texts.course(x, "ice 7;man z 1 1 50;bogus;");
        due("a FAULT", x.fault(), 1);
        Texts.course(x, "ice 7;man z 1 1 50;");
        due("best() of the other one", best > 0, true);
        x.feed(1, 2, 3, 4, 5);
        x.set(0, 3);
        due("restore(0)", x.restore(0), true);
        due("the tape stays", x.count(12), 20);
        due("nothing can be undone", x.undo(), -1);
        due("the COURSE", x.count(5), 4);
        due("'ice'", x.count(3), 1);
        due("the PLAN", x.run(0), 419);
        due("lead", x.count(8), 0);
        due("what is kept", x.lost(3), 419 - 358);
        due("the SENTENCE", x.said(-1), 3);
        due("what best() told", x.when(0), when);
        due("restore(1)", x.restore(1), true);
        due("the number there", x.count(10), 9);
        due("what is kept there", x.lost(3), 0);
        due("the SENTENCE there", x.said(2), 2);
        x.set(2, 8);
        due("an image is no PLAN", x.restore(1), true);
        due("the number again", x.count(10), 9);
        due("restore(2)", x.restore(2), false);
        due("restore(-1)", x.restore(-1), false);
        x.end(0);
        Texts.course(x, "ice 1;");
        x.image(0);
        x.restore(1);
        x.restore(0);
        due("an image without a crew", x.count(11), 0);
        due("an image without a SENTENCE", x.said(-1), -1);
        FourSledge fresh = new FourSledge();
        due("of a new object", fresh.image(1), true);
        due("the other place", fresh.restore(0), false);
        Texts.course(fresh, COURSE);
        due("restored", fresh.restore(1), true);
        due("empty again", fresh.count(5), 0);
        FourSledge unkept = down();
        unkept.image(0);
        unkept.keep();
        unkept.restore(0);
        due("none was kept", unkept.lost(3), NO);
    }

    private static void promise40() {
        FourSledge x = told(COURSE, PLAN + "lead 12;on r;start 13;");
        x.feed(0, 0, 0, 0, 0);
        int[] counts = {5, 200, 800, 1, 6, 4, 2, 2, 12, 1, 13, 1, 20, -1};
        for (int what = 0; what < counts.length; what++) {
            due("count(" + what + ")", x.count(what), counts[what]);
        }
        due("count(-1)", x.count(-1), -1);
        due("count(least)", x.count(Integer.MIN_VALUE), -1);
        due("no crew", nobody().count(11), 0);
        due("no RUNNERS", new FourSledge().count(9), -1);
    }

    public static void main(String[] args) {
        promise1();
        promise2();
        promise3();
        promise4();
        promise5();
        promise6();
        promise7();
        promise8();
        promise9();
        promise10();
        promise11();
        promise12();
        promise13();
        promise14();
        promise15();
        promise16();
        promise17();
        promise18();
        promise19();
        promise20and21();
        promise22and23();
        promise24();
        promise25();
        promise26();
        promise27();
        promise28();
        promise29();
        promise30();
        promise31();
        promise32();
        promise33();
        promise34();
        promise35();
        promise36();
        promise37();
        promise38and39();
        promise40();
        Texts.finish("PromiseTest");
    }
}
