/** Promises 1 to 19: the tape, the texts, what is told, the run by the PLAN, changes and undo(). */
final class EdgesOfPlans extends EdgeHelp {
    private EdgesOfPlans() { }

    static void all() {
        object();
        tape();
        texts();
        faults();
        menBendsRunners();
        start();
        down13();
        changes();
        swaps();
        undone();
    }

    private static void object() {
        edge(-1, "An object is used for at most 512 calls after it has been made; what later calls answer is free.", () -> {
            FourSledge x = down();
            int made = (COURSE.length() + 19) / 20 + 2 + (PLAN.length() + 19) / 20 + 2;
            for (int i = made; i < 508; i++) {
                due("set, call " + i, x.set(2, i % 60 + 1), true);
            }
            due("the last ones: best", x.best() > 0, true);
            due("the last ones: undo", x.undo(), 7);
            due("the last ones: number", x.count(10), 506 % 60 + 1);
            due("the last ones: TIME", x.run(0) > 0, true);
        });
        edge(1, "An empty COURSE; an empty tape.", () -> {
            FourSledge x = new FourSledge();
            int[] usual = {40, 210, 630, 2, 5, 0, 0, 0, 0, -1, 1, 0, 0};
            for (int what = 0; what < usual.length; what++) {
                due("count(" + what + ")", x.count(what), usual[what]);
            }
            due("no MEN", throwsNone(x, 0, 0), true);
            due("no BENDS", x.bend(0, 0), -1);
            due("no RUNNERS", x.runner(0, 0), -1);
            due("no SENTENCE", x.said(-1), -1);
            due("none kept", x.lost(0), NO);
            due("nothing to be undone", x.undo(), -1);
            due("no image", x.restore(0) || x.restore(1), false);
        });
        edge(1, "An empty COURSE; an empty tape.", () -> {
            due("course() of it", new FourSledge().course(), 0);
            due("plan() of it", new FourSledge().plan(), 0);
            due("sentence() of it", new FourSledge().sentence(), -1);
            due("runs() of it", new FourSledge().runs(), -1);
            due("end(0) of it", new FourSledge().end(0), true);
            due("end(1) of it", new FourSledge().end(1), false);
        });
        edge(1, "An empty COURSE; an empty tape.", () -> {
            FourSledge one = down();
            FourSledge other = new FourSledge();
            other.feed(1, 2, 3, 4, 5);
            due("objects have nothing in common", one.count(12), 0);
            due("objects have nothing in common", other.count(5), 0);
            due("objects have nothing in common", one.run(0), 358);
        });
    }

    private static void tape() {
        edge(2, "Twenty bytes come behind the tape, of each number the highest first: how many it has;", () -> {
            FourSledge x = new FourSledge();
            due("20", x.feed(0x69636520, 0x333b7761, 0x726d2037, 0x3b796172, 0x64732039), 20);
            due("40", x.feed(0x3b6d6f73, 0x74203839, 0x373b2020, 0x20200a0a, 0x20202020), 40);
            due("ice 3;warm 7;yards 9;most 897;", x.course(), 4);
            due("ice", x.count(3), 3);
            due("warm", x.count(4), 7);
            due("yards", x.count(0), 9);
            due("most", x.count(2), 897);
        });
        edge(2, "Twenty bytes come behind the tape, of each number the highest first: how many it has;", () -> {
            FourSledge x = down();
            // Bytes above 127 are bytes as others are: numbers below 0 hold them.
            x.feed(-1, 0, 0, 0, 0);
            x.end(4);
            due("runs() of 255s", x.runs(), -1);
            x.feed(0x01010101, -1, -1, -1, -1);
            x.end(4);
            due("runs() of the first four", x.runs(), 4 * 358);
            x.feed(-1, Integer.MIN_VALUE, Integer.MAX_VALUE, 0, 0);
            due("no TOKEN", x.course(), -1);
        });
        edge(2, "NONE, and none come, if it would have more than 940.", () -> {
            FourSledge x = new FourSledge();
            for (int i = 1; i <= 47; i++) {
                due("feed " + i, x.feed(0x20202020, 0x20202020, 0x20202020, 0x20202020, 0x20202020), 20 * i);
            }
            due("full", x.feed(1, 1, 1, 1, 1), -1);
            due("none came", x.count(12), 940);
            x.end(921);
            due("961 - 20", x.feed(1, 1, 1, 1, 1), -1);
            due("none came", x.count(12), 921);
            x.end(920);
            due("just 940", x.feed(0x20202020, 0x20202020, 0x20202020, 0x20202020, 0x20202020), 940);
            due("again", x.feed(1, 1, 1, 1, 1), -1);
            due("940 blanks are too many for a COURSE", x.course(), -901);
            due("empty then", x.feed(1, 1, 1, 1, 1), 20);
        });
        edge(3, "The tape has its first n bytes alone: true;", () -> {
            FourSledge x = new FourSledge();
            Texts.tape(x, "ice 1;warm 9;ice 1;!");
            due("20 of 20", x.end(20), true);
            due("as many", x.count(12), 20);
            due("13", x.end(13), true);
            due("13 bytes", x.count(12), 13);
            due("those bytes", x.course(), 2);
            x.feed(1, 2, 3, 4, 5);
            due("0", x.end(0), true);
            due("none", x.count(12), 0);
            due("0 of none", x.end(0), true);
        });
        edge(3, "false, if it has not so many, or n is below 0.", () -> {
            FourSledge x = new FourSledge();
            due("1 of none", x.end(1), false);
            x.feed(1, 2, 3, 4, 5);
            due("21 of 20", x.end(21), false);
            due("-1", x.end(-1), false);
            due("least", x.end(Integer.MIN_VALUE), false);
            due("most", x.end(Integer.MAX_VALUE), false);
            due("the tape stays", x.count(12), 20);
            x.end(3);
            due("what is cut does not come back", x.end(4), false);
            due("the tape stays", x.count(12), 3);
            x.end(0);
            Texts.tape(x, "crewcrewcrewcrewcrew");
            x.end(4);
            due("what is cut is not read", x.sentence(), 1);
            Texts.tape(x, "yards 5;yards 5;");
            x.end(8);
            due("what is cut is not read", x.course(), 1);
            Texts.tape(x, "lead 999999999999999");
            x.end(7);
            due("what is cut is not read", x.plan(), -8);
        });
    }

    private static void texts() {
        edge(4, "The tape (empty then, here and below) is the COURSE now: how many LINES;", () -> {
            FourSledge x = new FourSledge();
            due("13 LINES", Texts.course(x, COURSE), 13);
            due("empty then", x.count(12), 0);
            due("no LINES", x.course(), 0);
            due("no MEN", x.count(5), 0);
            Texts.course(x, "ice 10;");
            due("empty behind a FAULT", x.count(12), 0);
            due("most LINES", Texts.course(x, "yards 5;sledge 100;most 300;ice 0;warm 0;" + many("man", 12, " 1 1 50;")
                + "bend 1 0 0 1;".repeat(12) + many("runner", 6, "r 0 0;")), 35);
        });
        edge(4, "-1 less the place of a FAULT: it stays.", () -> {
            FourSledge x = down();
            due("at 0", Texts.course(x, "!"), -1);
            due("at 900", Texts.course(x, " ".repeat(901)), -901);
            due("at 899", Texts.course(x, " ".repeat(899) + "!"), -900);
            due("behind good LINES", Texts.course(x, "yards 9;man z 1 1 50;man z"), -1 - 25);
            due("'yards' stay", x.count(0), 5);
            due("MEN stay", x.count(5), 4);
            due("the PLAN stays", x.run(0), 358);
        });
        edge(5, "The tape is the PLAN now: how many LINES;", () -> {
            FourSledge x = nobody();
            due("5 LINES", Texts.plan(x, PLAN), 5);
            due("empty then", x.count(12), 0);
            due("TIME", x.run(0), 358);
            due("most LINES", Texts.plan(x, OVER + "jump d 4;lead 0;high 0 4;high 1 1;on v;start 1;"), 10);
            due("no LINES", x.plan(), 0);
            due("no crew then", x.count(11), 0);
        });
        edge(5, "-1 less the place of a FAULT: it stays.", () -> {
            FourSledge x = down();
            x.set(0, 3);
            String before = view(x);
            due("at 0", Texts.plan(x, "!"), -1);
            due("at 400", Texts.plan(x, " ".repeat(401)), -401);
            due("behind good LINES", Texts.plan(x, "crew d c b a;lead 7;start 9;high 0 9;high 0"), -1 - 42);
            due("empty behind a FAULT", x.count(12), 0);
            String after = view(x).replaceAll("fault .*", "");
            due("the PLAN stays", after.equals(before.replaceAll("fault .*", "")), true);
            due("what can be undone stays", x.undo(), 0);
        });
    }

    private static void faults() {
        edge(6, "The kind of the FAULT of the latest course(), plan() or sentence();", () -> {
            FourSledge x = nobody();
            Texts.course(x, "ice 10;");
            due("of course()", x.fault(), 2);
            Texts.plan(x, "!");
            due("of plan()", x.fault(), 1);
            Texts.sentence(x, "ahead q");
            due("of sentence()", x.fault(), 3);
            Texts.sentence(x, "((((((((crew");
            due("the fourth", x.fault(), 4);
            x.runs();
            x.image(0);
            x.restore(0);
            x.end(-1);
            throwsNone(x, 9, 9);
            due("others leave it", x.fault(), 4);
            due("asked again", x.fault(), 4);
        });
        edge(6, "0 without one and ahead of any.", () -> {
            FourSledge x = new FourSledge();
            due("ahead of any", x.fault(), 0);
            Texts.plan(x, "!");
            x.plan();
            due("plan() without one", x.fault(), 0);
            Texts.plan(x, "!");
            x.course();
            due("course() without one", x.fault(), 0);
            Texts.plan(x, "!");
            Texts.sentence(x, "crew");
            due("sentence() without one", x.fault(), 0);
        });
    }

    private static void menBendsRunners() {
        edge(7, "Of a MAN: 0 PUSH, 1 FEET, 2 WEIGHT, 3 his place in the crew (NONE), 4 the YARD of his jump (NONE: not of"
            + " the crew).", () -> {
                FourSledge x = told(COURSE + "man e 1 2 53;", "crew d e a b;jump e 0;jump a 3;");
                int[][] men = {{9, 9, 100, 2, 3}, {8, 9, 90, 3, 4}, {7, 5, 70, -1, -1}, {6, 9, 110, 0, 4}, {1, 2, 53, 1, 0}};
                for (int m = 0; m < 5; m++) {
                    for (int what = 0; what < 5; what++) {
                        due("man(" + m + ", " + what + ")", x.man(m, what), men[m][what]);
                    }
                }
                due("no crew: place", nobody().man(0, 3), -1);
                due("no crew: YARD", nobody().man(0, 4), -1);
                due("no crew: PUSH", nobody().man(0, 0), 9);
            });
        edge(7, "NoSuchElementException: no such ones.", () -> {
            int[][] none = {{4, 0}, {-1, 0}, {0, 5}, {0, -1}, {4, 5}, {12, 3}, {Integer.MAX_VALUE, 0},
                {Integer.MIN_VALUE, 0}, {0, Integer.MAX_VALUE}, {0, Integer.MIN_VALUE}};
            for (int[] n : none) {
                due("man(" + n[0] + ", " + n[1] + ")", throwsNone(down(), n[0], n[1]), true);
                due("man(" + n[0] + ", " + n[1] + ") without a crew", throwsNone(nobody(), n[0], n[1]), true);
            }
            due("no MEN", throwsNone(new FourSledge(), 0, 0), true);
            due("the last one", throwsNone(down(), 3, 4), false);
        });
        edge(8, "Of a BEND: 0 LENGTH, 1 DROP, 2 LINE, 3 OVER, 4 the HEIGHT planned.", () -> {
            FourSledge x = down();
            int[][] bends = {{2, 2, 4, 40, 4}, {3, 5, 2, 9, 1}};
            for (int b = 0; b < 2; b++) {
                for (int what = 0; what < 5; what++) {
                    due("bend(" + b + ", " + what + ")", x.bend(b, what), bends[b][what]);
                }
            }
            due("its LINE without a PLAN", nobody().bend(1, 4), 2);
        });
        edge(8, "NONE: no such ones.", () -> {
            int[][] none = {{2, 0}, {-1, 0}, {0, 5}, {0, -1}, {12, 4}, {Integer.MAX_VALUE, 0}, {Integer.MIN_VALUE, 4},
                {1, Integer.MAX_VALUE}, {1, Integer.MIN_VALUE}};
            for (int[] n : none) {
                due("bend(" + n[0] + ", " + n[1] + ")", down().bend(n[0], n[1]), -1);
            }
        });
        edge(9, "Of a RUNNER: 0 BEST, 1 BAD, 2 what PACE it takes in each BEND by the number planned.", () -> {
            FourSledge x = nobody();
            int[][] runners = {{6, 4, 0}, {10, 2, 2}};
            for (int r = 0; r < 2; r++) {
                for (int what = 0; what < 3; what++) {
                    due("runner(" + r + ", " + what + ")", x.runner(r, what), runners[r][what]);
                }
            }
            x.set(2, 60);
            due("by number 60: 4 * 20 / 4", x.runner(0, 2), 20);
            due("by number 60: 2 * 16 / 4", x.runner(1, 2), 8);
        });
        edge(9, "NONE: no such ones.", () -> {
            int[][] none = {{2, 0}, {-1, 0}, {0, 3}, {0, -1}, {6, 2}, {Integer.MAX_VALUE, 2}, {Integer.MIN_VALUE, 2},
                {1, Integer.MAX_VALUE}, {1, Integer.MIN_VALUE}};
            for (int[] n : none) {
                due("runner(" + n[0] + ", " + n[1] + ")", down().runner(n[0], n[1]), -1);
            }
            due("no RUNNERS", told(MEN, CREW).runner(0, 2), -1);
        });
    }

    private static void start() {
        edge(10, "At the line by the PLAN: 0 TIME, 1 PACE, 2 who is in, as bits by places in the crew, 3 who is LATE, 4 WEIGHT.",
            () -> {
                FourSledge x = down();
                int[] start = {197, 83, 11, 4, 500};
                for (int what = 0; what < 5; what++) {
                    due("start(" + what + ")", x.start(what), start[what]);
                }
                FourSledge places = told(COURSE, PLAN.replace("crew a b c d", "crew c a b d"));
                due("bits by places, not by numbers", places.start(2), 14);
                due("LATE by places", places.start(3), 1);
            });
        edge(10, "NONE: another what, no crew.", () -> {
            for (int what : new int[] {5, -1, Integer.MAX_VALUE, Integer.MIN_VALUE}) {
                due("start(" + what + ")", down().start(what), -1);
            }
            for (int what = 0; what < 5; what++) {
                due("no crew: start(" + what + ")", nobody().start(what), -1);
            }
        });
        edge(11, "PACE behind a YARD;", () -> {
            int[] paces = {56, 80, 83, 84, 83};
            for (int yard = 0; yard < 5; yard++) {
                due("pace(" + yard + ")", down().pace(yard), paces[yard]);
            }
            due("the fortieth", told(MEN, CREW).pace(39), told(MEN, CREW).start(1));
        });
        edge(11, "NONE: no such one, no crew.", () -> {
            for (int yard : new int[] {5, -1, 40, Integer.MAX_VALUE, Integer.MIN_VALUE}) {
                due("pace(" + yard + ")", down().pace(yard), -1);
            }
            due("pace(40) of 40", told(MEN, CREW).pace(40), -1);
            due("no crew", nobody().pace(0), -1);
        });
        edge(12, "How one of the crew (0 to 3) jumps: 0 CLEAN, 1 CROWDED, 2 LATE;", () -> {
            int[] how = {0, 1, 2, 0};
            for (int place = 0; place < 4; place++) {
                due("jumps(" + place + ")", down().jumps(place), how[place]);
            }
            FourSledge x = told(COURSE, PLAN.replace("crew a b c d", "crew c a b d"));
            due("by places", x.jumps(0), 2);
        });
        edge(12, "NONE: no such one, no crew.", () -> {
            for (int place : new int[] {4, -1, Integer.MAX_VALUE, Integer.MIN_VALUE}) {
                due("jumps(" + place + ")", down().jumps(place), -1);
            }
            due("no crew", nobody().jumps(0), -1);
        });
    }

    private static void down13() {
        edge(13, "Down by the PLAN: 0 TIME in all, 1 PACE in the end (of the BEND where it turns OVER; at the line, if it"
            + " does not go down), 2 BENDS gone (without the one where it is OVER), 3 the BEND where it turns OVER (NONE).",
            () -> {
                int[][] run = {{358, 99, 2, -1}, {-1, 104, 1, 1}, {-1, 83, 0, -1}, {197, 83, 0, -1}, {-1, 75, 0, 0}};
                FourSledge[] by = {down(), over(), heavy(), told(COURSE.replace(BENDS, ""), OVER),
                    told("yards 5;sledge 200;most 800;ice 0;" + MEN + "bend 1 0 4 14;bend 1 0 0 99;", OVER)};
                for (int i = 0; i < by.length; i++) {
                    for (int what = 0; what < 4; what++) {
                        due("run(" + what + "), case " + i, by[i].run(what), run[i][what]);
                    }
                }
            });
        edge(13, "NONE: another what, no crew; TIME: also if it does not go down, or turns OVER.", () -> {
            for (int what : new int[] {4, -1, Integer.MAX_VALUE, Integer.MIN_VALUE}) {
                due("run(" + what + ")", down().run(what), -1);
            }
            for (int what = 0; what < 4; what++) {
                due("no crew: run(" + what + ")", nobody().run(what), -1);
            }
            due("does not go down", heavy().run(0), -1);
            due("turns OVER", over().run(0), -1);
        });
        edge(14, "PACE behind a BEND by the PLAN;", () -> {
            due("behind(0)", down().behind(0), 84);
            due("behind(1)", down().behind(1), 99);
            due("ahead of where it turns OVER", over().behind(0), 84);
        });
        edge(14, "NONE: it does not come there, no such one, no crew.", () -> {
            due("where it turns OVER", over().behind(1), -1);
            due("above 'most'", heavy().behind(0), -1);
            FourSledge turned = over();
            due("OVER in BEND 1", turned.run(3), 1);
            turned.high(1, 1);
            due("and not any more", turned.run(3), -1);
            due("it comes there then", turned.behind(1), 99);
            FourSledge x = down();
            due("behind(1)", x.behind(1), 99);
            x.high(1, 9);
            due("it does not come there any more", x.behind(1), -1);
            for (int b : new int[] {2, -1, 12, Integer.MAX_VALUE, Integer.MIN_VALUE}) {
                due("behind(" + b + ")", down().behind(b), -1);
            }
            due("no crew", nobody().behind(0), -1);
        });
    }

    private static void changes() {
        edge(15, "The crew's place c jumps in a YARD from now on: true;", () -> {
            FourSledge x = told(COURSE, PLAN.replace("crew a b c d", "crew d c b a"));
            due("c, the second", x.jump(1, 0), true);
            due("his YARD", x.man(2, 4), 0);
            due("the first YARD", x.jump(0, 0), true);
            due("the last YARD", x.jump(3, 4), true);
            due("his YARD", x.man(0, 4), 4);
            due("all three can be undone", x.undo(), 2);
        });
        edge(15, "false: no such ones, no crew, it does so already.", () -> {
            int[][] none = {{4, 0}, {-1, 0}, {0, 5}, {0, -1}, {0, 1}, {3, 4}, {Integer.MAX_VALUE, 0},
                {Integer.MIN_VALUE, 0}, {0, Integer.MAX_VALUE}, {0, Integer.MIN_VALUE}};
            for (int[] n : none) {
                refused(EdgeHelp::down, "jump(" + n[0] + ", " + n[1] + ")", x -> x.jump(n[0], n[1]));
            }
            refused(EdgeHelp::nobody, "jump(0, 0) without a crew", x -> x.jump(0, 0));
            refused(EdgeHelp::nobody, "jump(0, 4) without a crew", x -> x.jump(0, 4));
        });
        edge(16, "HEIGHT of a BEND from now on (also without a crew): true;", () -> {
            FourSledge x = over();
            due("high(1, 1)", x.high(1, 1), true);
            due("TIME", x.run(0), 358);
            due("least", x.high(0, 0), true);
            due("most", x.high(0, 9), true);
            due("HEIGHT", x.bend(0, 4), 9);
            due("LINE", x.bend(0, 2), 4);
            FourSledge none = nobody();
            due("without a crew", none.high(1, 0), true);
            due("without a crew: HEIGHT", none.bend(1, 4), 0);
            due("without a crew: undo", none.undo(), 0);
            due("without a crew: undone", none.bend(1, 4), 2);
        });
        edge(16, "false: no such ones, it is so already.", () -> {
            int[][] none = {{2, 0}, {2, 5}, {-1, 0}, {0, 10}, {0, -1}, {0, 4}, {1, 1}, {12, 0}, {Integer.MAX_VALUE, 0},
                {Integer.MIN_VALUE, 0}, {0, Integer.MAX_VALUE}, {0, Integer.MIN_VALUE}};
            for (int[] n : none) {
                refused(EdgeHelp::down, "high(" + n[0] + ", " + n[1] + ")", x -> x.high(n[0], n[1]));
            }
            refused(EdgeHelp::nobody, "high(1, 2), its LINE", x -> x.high(1, 2));
            refused(FourSledge::new, "high(0, 0) without BENDS", x -> x.high(0, 0));
            refused(() -> told("bend 1 0 0 1;".repeat(12), ""), "a thirteenth of twelve", x -> x.high(12, 1));
        });
        edge(17, "Lead (0 to 99), RUNNER, number (1 to 60) is n from now on (what 0, 1, 2; also without a crew): true;", () -> {
            for (FourSledge x : new FourSledge[] {down(), nobody()}) {
                due("lead 99", x.set(0, 99), true);
                due("lead 0", x.set(0, 0), true);
                due("lead 1", x.set(0, 1), true);
                due("RUNNER 1", x.set(1, 1), true);
                due("number 60", x.set(2, 60), true);
                due("number 1", x.set(2, 1), true);
                due("number 2", x.set(2, 2), true);
                due("lead", x.count(8), 1);
                due("RUNNER", x.count(9), 1);
                due("number", x.count(10), 2);
                due("RUNNER 0", x.set(1, 0), true);
                due("RUNNER then", x.count(9), 0);
                due("all eight can be undone", x.undo(), 7);
            }
            FourSledge six = told(many("runner", 6, " 1 1;"), "");
            due("the sixth", six.set(1, 5), true);
            due("a seventh", six.set(1, 6), false);
        });
        edge(17, "false: no such ones, it is so already.", () -> {
            int[][] none = {{0, 100}, {0, -1}, {0, 7}, {1, 2}, {1, -1}, {1, 0}, {2, 61}, {2, 0}, {2, 1}, {2, -1}, {3, 1},
                {-1, 1}, {Integer.MAX_VALUE, 1}, {Integer.MIN_VALUE, 1}, {0, Integer.MAX_VALUE}, {1, Integer.MIN_VALUE},
                {2, Integer.MAX_VALUE}};
            for (int[] n : none) {
                refused(EdgeHelp::down, "set(" + n[0] + ", " + n[1] + ")", x -> x.set(n[0], n[1]));
                refused(EdgeHelp::nobody, "set(" + n[0] + ", " + n[1] + ")", x -> x.set(n[0], n[1]));
            }
            refused(FourSledge::new, "set(1, 0) without RUNNERS", x -> x.set(1, 0));
            refused(FourSledge::new, "set(1, -1) without RUNNERS", x -> x.set(1, -1));
        });
    }

    private static void swaps() {
        edge(18, "Two of the crew change places (each with his YARD): true;", () -> {
            for (int a = 0; a < 4; a++) {
                for (int b = 0; b < 4; b++) {
                    FourSledge x = down();
                    due("swap(" + a + ", " + b + ")", x.swap(a, b), a != b);
                    for (int m = 0; m < 4; m++) {
                        due("place of " + m, x.man(m, 3), m == a ? b : m == b ? a : m);
                        due("YARD of " + m, x.man(m, 4), m + 1);
                    }
                }
            }
            // In one YARD their order matters: d is LATE ahead of c, not behind him.
            FourSledge x = told("yards 5;man a 9 9 50;man b 9 9 50;man c 9 9 50;man d 5 3 50;", CREW + "jump c 0;jump d 0;");
            due("ahead", x.start(3), 0);
            x.swap(2, 3);
            due("LATE then", x.start(3), 4);
        });
        edge(18, "false: no such ones, alike, no crew.", () -> {
            int[][] none = {{0, 4}, {4, 0}, {-1, 0}, {0, -1}, {0, 0}, {3, 3}, {4, 4}, {Integer.MAX_VALUE, 0},
                {0, Integer.MIN_VALUE}};
            for (int[] n : none) {
                refused(EdgeHelp::down, "swap(" + n[0] + ", " + n[1] + ")", x -> x.swap(n[0], n[1]));
            }
            refused(EdgeHelp::nobody, "swap(0, 1) without a crew", x -> x.swap(0, 1));
        });
    }

    private static void undone() {
        String quote = "The latest of jump(), high(), set(), swap() that was done, take() is undone: how many more can be (8 at"
            + " most are kept; a PLAN that is told forgets them);";
        edge(19, quote, () -> {
            FourSledge x = down();
            x.best();
            x.line();
            String[] views = new String[6];
            views[0] = view(x);
            boolean done = x.jump(2, 0);
            views[1] = view(x);
            done &= x.high(0, 9);
            views[2] = view(x);
            done &= x.set(2, 7);
            views[3] = view(x);
            done &= x.take(1);
            views[4] = view(x);
            done &= x.swap(1, 2);
            due("all were done", done, true);
            for (int left = 4; left >= 0; left--) {
                due("undo()", x.undo(), left);
                due("all is as it was, " + left, view(x).equals(views[left]), true);
            }
            due("none is left", x.undo(), -1);
            due("and nothing changes", view(x).equals(views[0]), true);
        });
        edge(19, quote, () -> {
            FourSledge x = down();
            for (int n = 2; n <= 9; n++) {
                x.set(2, n);
            }
            due("eight", x.undo(), 7);
            x.set(2, 9);
            x.set(2, 10);
            for (int left = 7; left >= 0; left--) {
                due("undo()", x.undo(), left);
                due("number", x.count(10), left + 2);
            }
            due("the ninth is forgotten", x.undo(), -1);
            due("number 2 stays", x.count(10), 2);
        });
        edge(19, quote, () -> {
            FourSledge x = down();
            for (int n = 2; n <= 60; n++) {
                x.set(2, n);
            }
            for (int i = 0; i < 5; i++) {
                x.undo();
            }
            for (int n = 20; n <= 24; n++) {
                x.set(2, n);
            }
            for (int i = 0, want = 23; i < 8; i++, want--) {
                due("the row goes round", x.undo(), 7 - i);
                due("number", x.count(10), i < 4 ? want : 59 - i);
            }
        });
        edge(19, quote, () -> {
            FourSledge x = down();
            x.set(0, 4);
            Texts.plan(x, "!");
            due("a FAULT forgets nothing", x.undo(), 0);
            x.set(0, 4);
            Texts.plan(x, PLAN);
            due("a PLAN that is told forgets", x.undo(), -1);
            x.set(0, 4);
            x.plan();
            due("an empty one, too", x.undo(), -1);
            x.set(0, 4);
            Texts.course(x, COURSE);
            due("a new COURSE has none", x.undo(), -1);
        });
        edge(19, "NONE: none is.", () -> {
            due("a new object", new FourSledge().undo(), -1);
            due("nothing done", down().undo(), -1);
            FourSledge x = down();
            x.jump(0, 1);
            x.high(1, 1);
            x.set(0, 0);
            x.swap(2, 2);
            x.take(0);
            due("nothing but refused", x.undo(), -1);
            x.best();
            x.line();
            x.keep();
            x.image(0);
            due("what changes no PLAN", x.undo(), -1);
        });
    }
}
