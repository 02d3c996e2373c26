/** Promises 20 to 40: searches, comparisons, KICKS, SENTENCES, images, count(). */
final class EdgesOfCalls extends EdgeHelp {
    /** It turns OVER whatever the YARDS are: HEIGHT 9 in a BEND that bears 1. */
    private static final String ALWAYS_OVER = "yards 5;most 900;" + MEN + "bend 1 9 9 1;";

    private EdgesOfCalls() { }

    static void all() {
        best();
        line();
        take();
        four();
        kilo();
        runnersAndRuns();
        worth();
        keepAndLost();
        touch();
        kicks();
        room();
        sentence();
        said();
        image();
        restore();
        count();
    }

    private static void best() {
        edge(20, "BEST JUMPS: TIME in all;", () -> {
            FourSledge x = down();
            int best = x.best();
            due("the PLAN stays", x.run(0), 358);
            due("again", x.best(), best);
            x.take(1);
            due("TIME in all", x.run(0), best);
            due("whatever YARDS are planned", told(COURSE, CREW + "high 1 1;").best(), best);
            FourSledge forty = told(COURSE.replace("yards 5;", "").replace("most 800", "most 900"), CREW + "high 1 1;");
            int most = forty.best();
            due("40 YARDS", most > 0, true);
            forty.take(1);
            due("40 YARDS: TIME in all", forty.run(0), most);
        });
        edge(20, "NONE: none, no crew.", () -> {
            due("OVER", told(ALWAYS_OVER, CREW).best(), -1);
            due("above 'most'", told(COURSE.replace("most 800", "most 569"), PLAN).best(), -1);
            due("LATE", told("yards 5;man a 9 1 50;man b 9 9 50;man c 9 9 50;man d 9 9 50;", CREW).best(), -1);
            due("no crew", nobody().best(), -1);
            due("a new object", new FourSledge().best(), -1);
        });
        edge(21, "The YARD in which a place of the crew jumps by the latest best() that was not NONE;", () -> {
            FourSledge x = down();
            x.best();
            int[] when = {x.when(0), x.when(1), x.when(2), x.when(3)};
            x.take(1);
            for (int place = 0; place < 4; place++) {
                due("when(" + place + ")", x.man(place, 4), when[place]);
            }
            x.undo();
            x.swap(0, 3);
            due("by places, also behind swap()", x.when(0), when[0]);
            x.high(0, 9);
            x.high(1, 9);
            due("NONE now", x.best(), -1);
            due("the one ahead of it", x.when(3), when[3]);
            Texts.plan(x, "");
            due("NONE without a crew", x.best(), -1);
            due("the one ahead of it", x.when(2), when[2]);
            x.course();
            due("behind a new COURSE", x.when(1), when[1]);
            x.four();
            due("four() tells nothing", x.when(0), when[0]);
        });
        edge(21, "NONE: no such one, or ahead of any.", () -> {
            FourSledge x = down();
            due("ahead of any", x.when(0), -1);
            x.four();
            due("four() is no best()", x.when(0), -1);
            x.best();
            for (int place : new int[] {4, -1, 11, Integer.MAX_VALUE, Integer.MIN_VALUE}) {
                due("when(" + place + ")", x.when(place), -1);
            }
            FourSledge none = nobody();
            none.best();
            due("behind NONE alone", none.when(0), -1);
        });
    }

    private static void line() {
        edge(22, "BEST LINE: TIME in all;", () -> {
            FourSledge x = over();
            int line = x.line();
            due("OVER by the PLAN, not by the BEST LINE", line > 0, true);
            due("the PLAN stays", x.run(0), -1);
            x.take(0);
            due("TIME in all", x.run(0), line);
            due("again", x.line(), line);
            due("no BENDS", told(COURSE.replace(BENDS, ""), OVER).line(), 197);
        });
        edge(22, "NONE: none, no crew, above 'most'.", () -> {
            due("above 'most'", heavy().line(), -1);
            due("just 'most'", told(COURSE.replace("most 800", "most 500"), PLAN).line() > 0, true);
            due("no crew", nobody().line(), -1);
            due("a new object", new FourSledge().line(), -1);
            // HEIGHT 0 turns OVER nowhere, so there is always one.
            due("BENDS that bear 1", told(ALWAYS_OVER, CREW).line() > 0, true);
            due("HEIGHT 0 there", told(ALWAYS_OVER + "bend 9 9 9 1;".repeat(11), CREW).line() > 0, true);
        });
        edge(23, "HEIGHT of a BEND by the latest line() that was not NONE;", () -> {
            FourSledge x = down();
            x.line();
            int[] heights = {x.height(0), x.height(1)};
            x.take(0);
            due("height(0)", x.bend(0, 4), heights[0]);
            due("height(1)", x.bend(1, 4), heights[1]);
            x.high(0, 9);
            due("not the one planned", x.height(0), heights[0]);
            Texts.plan(x, "");
            due("NONE without a crew", x.line(), -1);
            due("the one ahead of it", x.height(1), heights[1]);
            x.course();
            due("behind a new COURSE", x.height(0), heights[0]);
        });
        edge(23, "NONE: no such one, or ahead of any.", () -> {
            FourSledge x = down();
            due("ahead of any", x.height(0), -1);
            x.best();
            due("best() is no line()", x.height(0), -1);
            x.line();
            for (int b : new int[] {2, -1, 12, Integer.MAX_VALUE, Integer.MIN_VALUE}) {
                due("height(" + b + ")", x.height(b), -1);
            }
            FourSledge none = heavy();
            none.line();
            due("behind NONE alone", none.height(0), -1);
            FourSledge twelve = told("yards 5;" + MEN + "bend 1 1 1 99;".repeat(12), OVER);
            twelve.line();
            due("the twelfth", twelve.height(11) >= 0, true);
            due("a thirteenth", twelve.height(12), -1);
        });
    }

    private static void take() {
        edge(24, "What line() told last that was not NONE is planned from now on (0), what best() did (1): true;", () -> {
            FourSledge x = down();
            int best = x.best();
            due("best()", x.take(1), true);
            due("HEIGHTS stay", x.bend(1, 4), 1);
            due("TIME", x.run(0), best);
            int line = x.line();
            due("line()", x.take(0), true);
            due("YARDS stay", x.man(0, 4), x.when(0));
            due("TIME", x.run(0), line);
            due("again", x.take(0), true);
            due("again", x.take(1), true);
            due("each can be undone", x.undo(), 3);
        });
        edge(24, "What line() told last that was not NONE is planned from now on (0), what best() did (1): true;", () -> {
            FourSledge x = down();
            int best = x.best();
            int line = x.line();
            x.set(0, 99);
            x.high(0, 9);
            x.high(1, 9);
            due("best() is NONE now", x.best(), -1);
            due("what it told ahead is taken", x.take(1), true);
            due("the line", x.take(0), true);
            x.set(0, 0);
            due("both are planned", x.run(0) <= Math.min(best, line), true);
        });
        edge(24, "false: ahead of any, of another COURSE or crew, another what.", () -> {
            for (int what : new int[] {0, 1, 2, -1, Integer.MAX_VALUE, Integer.MIN_VALUE}) {
                refused(EdgeHelp::down, "take(" + what + ") ahead of any", x -> x.take(what));
                refused(EdgeHelp::nobody, "take(" + what + ") without a crew", x -> x.take(what));
                if (what < 0 || what > 1) {
                    refused(EdgesOfCalls::both, "take(" + what + ")", x -> x.take(what));
                } else {
                    refused(() -> then(both(), "", "crew a b d c;"), "take(" + what + ") of another order", x -> x.take(what));
                    refused(() -> then(both(), "", ""), "take(" + what + "), no crew now", x -> x.take(what));
                    refused(() -> then(both(), COURSE.replace("ice 1", "ice 2"), PLAN),
                        "take(" + what + ") of another COURSE", x -> x.take(what));
                }
            }
        });
        edge(24, "false: ahead of any, of another COURSE or crew, another what.", () -> {
            FourSledge five = told(COURSE + "man e 9 9 60;", PLAN);
            five.best();
            five.line();
            Texts.plan(five, "crew a b c e;");
            due("another crew", five.take(1), false);
            due("another crew: line", five.take(0), false);
            Texts.plan(five, "crew e b c d;");
            due("another first one", five.take(1), false);
            Texts.plan(five, PLAN);
            due("that crew again", five.take(1), true);
            FourSledge alone = down();
            alone.best();
            due("best() alone", alone.take(0), false);
            alone = down();
            alone.line();
            due("line() alone", alone.take(1), false);
            FourSledge x = both();
            x.swap(0, 1);
            due("places changed", x.take(1), false);
            x.swap(1, 0);
            due("and back", x.take(1), true);
        });
    }

    /** best() and line() have told. */
    private static FourSledge both() {
        FourSledge x = down();
        x.best();
        x.line();
        return x;
    }

    private static FourSledge then(FourSledge x, String course, String plan) {
        if (!course.isEmpty()) {
            Texts.course(x, course);
        }
        Texts.plan(x, plan);
        return x;
    }

    private static void four() {
        edge(25, "FOUR: MEN, as bits;", () -> {
            FourSledge x = told("yards 5;sledge 200;most 900;man a 1 1 150;man b 9 9 100;man c 9 9 100;man d 1 1 150;"
                + "man e 9 9 100;man f 9 9 100;", "");
            due("1, 2, 4, 5", x.four(), 2 + 4 + 16 + 32);
            due("without a crew", x.count(11), 0);
            Texts.plan(x, "crew d c b a;jump d 0;");
            due("whatever the crew", x.four(), 2 + 4 + 16 + 32);
            due("the crew stays", x.man(3, 3), 0);
            due("its YARDS stay", x.man(3, 4), 0);
            FourSledge changed = told("yards 5;most 410;" + many("man", 6, " 5 5 50;"), "");
            due("just 'most'", changed.four(), 15);
            changed.set(0, 1);
            due("by the lead that is set", changed.four(), -1);
        });
        edge(25, "NONE: none, more than 6 MEN.", () -> {
            String men = "yards 5;most 900;";
            due("7", told(men + many("man", 7, " 5 5 50;"), "").four(), -1);
            due("12", told(men + many("man", 12, " 5 5 50;"), "").four(), -1);
            due("6", told(men + many("man", 6, " 5 5 50;"), "").four(), 15);
            due("4", told(men + many("man", 4, " 5 5 50;"), "").four(), 15);
            due("3", told(men + many("man", 3, " 5 5 50;"), "").four(), -1);
            due("0", new FourSledge().four(), -1);
            due("OVER", told(ALWAYS_OVER, "").four(), -1);
            due("above 'most'", told("most 409;" + many("man", 6, " 5 5 50;"), "").four(), -1);
            due("just 'most'", told("yards 5;most 410;" + many("man", 6, " 5 5 50;"), "").four(), 15);
            due("above 'most' by lead", told("yards 5;most 410;" + many("man", 6, " 5 5 50;"), "lead 1;").four(), -1);
        });
    }

    private static void kilo() {
        edge(26, "KILO for n (1 to 99);", () -> {
            due("1", down().kilo(1), 0);
            due("99", down().kilo(99), 5);
            due("0", down().kilo(0), NO);
            due("100", down().kilo(100), NO);
            due("-1", down().kilo(-1), NO);
            due("least", down().kilo(Integer.MIN_VALUE), NO);
            due("most", down().kilo(Integer.MAX_VALUE), NO);
            FourSledge changed = nobody();
            Texts.plan(changed, CREW + "jump a 1;jump b 2;jump c 0;start 30;");
            changed.jump(2, 3);
            changed.high(1, 1);
            changed.set(2, 1);
            due("by what is planned now", changed.kilo(99), 5);
            FourSledge x = told(COURSE, PLAN + "lead 99;");
            due("none below 0", x.kilo(-99), NO);
            due("the lead stays", x.count(8), 99);
        });
        edge(26, "NONE - 100000: one of both has no TIME in all, no crew, lead would be above 99.", () -> {
            due("NONE - 100000", FourSledge.NONE - 100000, NO);
            due("99 in all", told(COURSE, PLAN + "lead 98;").kilo(1), 0);
            due("100 in all", told(COURSE, PLAN + "lead 99;").kilo(1), NO);
            due("100 in all", told(COURSE, PLAN + "lead 1;").kilo(99), NO);
            due("no TIME without", over().kilo(1), NO);
            due("no TIME with", told(COURSE.replace("most 800", "most 501"), PLAN).kilo(2), NO);
            due("just 'most' with", told(COURSE.replace("most 800", "most 501"), PLAN).kilo(1), 0);
            // 84 + 25 - 10 = 99 by HEIGHT 1: 99 is not above 20 times 5; 599 kilos make it 104.
            String five = COURSE.replace("5 2 9;", "5 2 5;");
            due("it turns OVER with", told(five, PLAN).kilo(99), NO);
            due("but not without", told(five, PLAN).run(0), 358);
            due("no crew", nobody().kilo(1), NO);
        });
    }

    private static void runnersAndRuns() {
        edge(27, "RUNNERS;", () -> {
            due("by number 1", down().runners(), 0);
            FourSledge x = told(COURSE, PLAN + "start 30;");
            due("by number 30", x.runners(), 1);
            due("the RUNNER planned stays", x.count(9), 0);
            x.set(2, 1);
            due("by the number that is set", x.runners(), 0);
            x.high(1, 9);
            due("by the HEIGHT that is set", x.runners(), -1);
        });
        edge(27, "NONE: none (has a TIME in all), no crew.", () -> {
            due("no RUNNERS", told(COURSE.replace(RUNNERS, ""), PLAN).runners(), -1);
            due("OVER on all", over().runners(), -1);
            due("above 'most'", heavy().runners(), -1);
            due("no crew", nobody().runners(), -1);
            // 84 + 25 - 10 = 99 on v is OVER by 4; what is worse is slower and stays up.
            String bad = COURSE.replace("5 2 9;", "5 2 4;").replace("10 2;", "20 9;");
            due("one has a TIME", told(bad, PLAN).runners(), 1);
        });
        edge(28, "FOUR RUNS by the tape (four bytes 1 to 60): TIMES together;", () -> {
            FourSledge x = down();
            due("least", runs(x, 1, 1, 1, 1), 4 * 358);
            due("most", runs(x, 60, 60, 60, 60), 4 * told(COURSE, PLAN + "start 60;").run(0));
            due("the number planned stays", x.count(10), 1);
            due("empty then", x.count(12), 0);
            due("unlike", runs(x, 1, 1, 1, 30), 3 * 358 + 419);
        });
        edge(28, "NONE: not as told, one has no TIME in all, no crew.", () -> {
            FourSledge x = down();
            int[][] bad = {{}, {1}, {1, 1, 1}, {1, 1, 1, 1, 1}, {0, 1, 1, 1}, {1, 1, 1, 0}, {61, 1, 1, 1}, {1, 1, 1, 61},
                {1, 1, 1, 127}, {1, 1, 1, 128}, {255, 1, 1, 1}, {'1', '1', '1', 200}};
            for (int[] b : bad) {
                due("bytes " + java.util.Arrays.toString(b), runs(x, b), -1);
                due("empty then", x.count(12), 0);
            }
            due("no TIME", runs(over(), 1, 1, 1, 1), -1);
            FourSledge none = nobody();
            due("no crew", runs(none, 1, 1, 1, 1), -1);
            due("no crew: empty then", none.count(12), 0);
            due("no fault of it", x.fault(), 0);
        });
        edge(28, "NONE: not as told, one has no TIME in all, no crew.", () -> {
            // 99 is above 20 times 4 by HEIGHT 1; by number 60 it is slower and stays up.
            FourSledge x = told(COURSE.replace("5 2 9;", "5 2 4;"), PLAN);
            due("by number 1 it turns OVER", x.worth(1, 1), NO);
            due("by number 60 it does not", x.worth(60, 60), 0);
            due("the first has none", runs(x, 1, 60, 60, 60), -1);
            due("the last has none", runs(x, 60, 60, 60, 1), -1);
            due("all have", runs(x, 60, 60, 60, 60) > 0, true);
        });
    }

    private static void worth() {
        edge(29, "By how much TIME in all is more by number b than by number a (1 to 60);", () -> {
            due("1, 30", down().worth(1, 30), 61);
            due("30, 1", down().worth(30, 1), -61);
            due("alike", down().worth(60, 60), 0);
            due("1, 60", down().worth(1, 60), told(COURSE, PLAN + "start 60;").run(0) - 358);
            due("whatever is planned", told(COURSE, PLAN + "start 9;").worth(1, 30), 61);
            FourSledge x = over();
            due("OVER", x.worth(1, 30), NO);
            x.high(1, 1);
            due("by the HEIGHT that is set", x.worth(1, 30), 61);
            x.high(1, 2);
            due("runs() by the HEIGHT that is set", runs(x, 1, 1, 1, 1), -1);
        });
        edge(29, "NONE - 100000: not as told, one has none, no crew.", () -> {
            int[][] bad = {{0, 1}, {1, 0}, {61, 1}, {1, 61}, {-1, 1}, {1, Integer.MAX_VALUE}, {Integer.MIN_VALUE, 1}};
            for (int[] b : bad) {
                due("worth(" + b[0] + ", " + b[1] + ")", down().worth(b[0], b[1]), NO);
            }
            FourSledge x = told(COURSE.replace("5 2 9;", "5 2 4;"), PLAN);
            due("a has none", x.worth(1, 60), NO);
            due("b has none", x.worth(60, 1), NO);
            due("no crew", nobody().worth(1, 2), NO);
        });
    }

    private static void keepAndLost() {
        edge(30, "The PLAN is kept as what is compared with (behind undo(), too): true;", () -> {
            FourSledge x = down();
            x.set(2, 30);
            due("keep()", x.keep(), true);
            due("nothing lost", x.lost(3), 0);
            x.undo();
            due("behind undo()", x.lost(3), -61);
            Texts.plan(x, PLAN + "start 30;");
            due("behind plan()", x.lost(3), 0);
            x.set(2, 1);
            due("behind set()", x.lost(3), -61);
            due("kept anew", x.keep(), true);
            due("nothing lost", x.lost(3), 0);
            due("one that turns OVER can be kept", over().keep(), true);
            due("one above 'most', too", heavy().keep(), true);
        });
        edge(30, "false: no crew.", () -> {
            due("no crew", nobody().keep(), false);
            due("a new object", new FourSledge().keep(), false);
            FourSledge x = down();
            x.keep();
            Texts.plan(x, "");
            due("no crew now", x.keep(), false);
            Texts.plan(x, PLAN + "start 30;");
            due("what was kept stays", x.lost(3), 61);
        });
        edge(31, "LOST (0 to 2; 3: all);", () -> {
            FourSledge x = down();
            x.keep();
            x.jump(2, 0);
            due("0 to 2 are all", x.lost(0) + x.lost(1) + x.lost(2), x.lost(3));
            due("all", x.lost(3), x.run(0) - 358);
        });
        edge(31, "NONE - 100000: none is kept, one has no TIME in all, or the kept one none with the PLAN's PACE, no crew,"
            + " another what.", () -> {
                for (int what = 0; what < 4; what++) {
                    due("none is kept", down().lost(what), NO);
                    FourSledge x = over();
                    x.keep();
                    due("neither has", x.lost(what), NO);
                    x.high(1, 1);
                    due("the kept one has none", x.lost(what), NO);
                    x.keep();
                    due("both have", x.lost(what), 0);
                    x.undo();
                    due("the PLAN has none", x.lost(what), NO);
                    Texts.plan(x, "");
                    due("no crew", x.lost(what), NO);
                }
                FourSledge x = down();
                x.keep();
                for (int what : new int[] {4, -1, Integer.MAX_VALUE, Integer.MIN_VALUE}) {
                    due("lost(" + what + ")", x.lost(what), NO);
                }
                x.set(0, 99);
                due("within 'most'", x.lost(3) != NO, true);
            });
        edge(31, "NONE - 100000: none is kept, one has no TIME in all, or the kept one none with the PLAN's PACE, no crew,"
            + " another what.", () -> {
                // All in YARD 0 are slow at the line: HEIGHT 9 bears that, and no more.
                FourSledge x = told("yards 5;most 900;man a 9 9 50;man b 9 9 50;man c 9 9 50;man d 9 9 50;bend 1 0 9 12;",
                    CREW + "jump a 0;jump b 0;jump c 0;jump d 0;");
                due("the kept one has a TIME", x.run(0) > 0, true);
                x.keep();
                Texts.plan(x, CREW + "high 0 0;");
                due("the PLAN has one", x.run(0) > 0, true);
                for (int what = 0; what < 4; what++) {
                    due("none with the PLAN's PACE: lost(" + what + ")", x.lost(what), NO);
                }
            });
    }

    private static void touch() {
        edge(32, "TOUCH of n (1 to 99) behind a BEND;", () -> {
            due("1", down().touch(0, 1), 2);
            due("99", down().touch(0, 99), 197 + 600 + 360 - 358);
            due("the last BEND", down().touch(1, 4), 4);
            FourSledge x = down();
            x.touch(0, 50);
            due("the PLAN stays", x.run(0), 358);
            due("PACE stays", x.behind(0), 84);
            due("others are not touched: kilo", x.kilo(99), 5);
            x.keep();
            due("others are not touched: lost", x.lost(3), 0);
        });
        edge(32, "NONE - 100000: no such ones, no TIME in all (with or without), no crew.", () -> {
            int[][] bad = {{0, 0}, {0, 100}, {0, -1}, {2, 1}, {-1, 1}, {12, 1}, {Integer.MAX_VALUE, 1},
                {Integer.MIN_VALUE, 1}, {0, Integer.MAX_VALUE}, {0, Integer.MIN_VALUE}};
            for (int[] b : bad) {
                due("touch(" + b[0] + ", " + b[1] + ")", down().touch(b[0], b[1]), NO);
            }
            due("OVER", over().touch(1, 99), NO);
            // By less PACE behind BEND 0 it would go well through BEND 1: but without it has no TIME.
            due("none without", over().touch(0, 99), NO);
            due("above 'most'", heavy().touch(0, 1), NO);
            due("no crew", nobody().touch(0, 1), NO);
            due("no BENDS", told(COURSE.replace(BENDS, ""), OVER).touch(0, 1), NO);
        });
    }

    private static void kicks() {
        edge(33, "TIME in all with KICKS DRAWN by a seed;", () -> {
            FourSledge x = down();
            // By hand in PromiseTest: 5 draws 0, 2, 7, 7, and 4 draws 1, 0, 2, 0.
            due("5", x.drawn(5), 430);
            due("4", x.drawn(4), 468);
            due("2", x.drawn(2), 358);
            due("the PLAN stays", x.run(0), 358);
            for (int seed = 0; seed < 40; seed++) {
                x.drawn(seed);
                due("others draw nothing", x.run(0), 358);
            }
            due("least and 0 draw alike", x.drawn(Integer.MIN_VALUE), x.drawn(0));
            due("most and -1 draw alike", x.drawn(Integer.MAX_VALUE), x.drawn(-1));
        });
        edge(33, "NONE: none, no crew.", () -> {
            due("OVER", over().drawn(2), -1);
            due("above 'most'", heavy().drawn(2), -1);
            due("no crew", nobody().drawn(2), -1);
            // By a KICK of a's c gets in: 70 kilos more.
            FourSledge x = told(COURSE.replace("most 800", "most 500"), PLAN);
            due("just 'most' without", x.drawn(2), 358);
            due("above by a KICK", x.drawn(5), -1);
        });
        edge(34, "Of n (1 to 60) seeds x, x and 1, .. how many have a TIME in all below t;", () -> {
            FourSledge x = down();
            due("below 358", x.odds(1, 2, 358), 0);
            due("below 359", x.odds(1, 2, 359), 1);
            due("2 to 5: 358, 358, 468, 430", x.odds(4, 2, 468), 3);
            due("2 to 5", x.odds(4, 2, 469), 4);
            due("60", x.odds(60, 1, Integer.MAX_VALUE), 60);
            due("t 0", x.odds(60, 1, 0), 0);
            due("t below 0", x.odds(60, 1, -5), 0);
            due("t least", x.odds(60, 1, Integer.MIN_VALUE), 0);
            due("no TIME is below nothing", over().odds(2, 2, Integer.MAX_VALUE), 0);
            due("nor above 'most'", heavy().odds(60, 1, Integer.MAX_VALUE), 0);
        });
        edge(34, "Of n (1 to 60) seeds x, x and 1, .. how many have a TIME in all below t;", () -> {
            FourSledge x = down();
            int below = 0;
            for (int i = 0; i < 20; i++) {
                below += x.drawn(Integer.MAX_VALUE - 9 + i) < 400 ? 1 : 0;
            }
            due("seeds go round", x.odds(20, Integer.MAX_VALUE - 9, 400), below);
            due("some, not all", below > 0 && below < 20, true);
        });
        edge(34, "NONE: not as told, no crew.", () -> {
            for (int n : new int[] {0, 61, -1, Integer.MAX_VALUE, Integer.MIN_VALUE}) {
                due("odds of " + n, down().odds(n, 1, 1), -1);
            }
            due("no crew", nobody().odds(1, 1, 1), -1);
        });
    }

    private static void room() {
        edge(35, "The most lead (0 to 99) by which it is not above 'most' with all who get in;", () -> {
            int[][] rooms = {{500, 0}, {501, 1}, {598, 98}, {599, 99}, {600, 99}, {900, 99}};
            for (int[] r : rooms) {
                FourSledge x = told(COURSE.replace("most 800", "most " + r[0]), PLAN);
                due("of " + r[0], x.room(), r[1]);
                x.set(0, 50);
                due("of " + r[0] + ", whatever the lead", x.room(), r[1]);
            }
            FourSledge x = told(COURSE.replace("most 800", "most 580"), PLAN);
            due("without c, who is LATE", x.room(), 80);
            x.jump(2, 0);
            due("with him", x.room(), 10);
            x.set(0, 10);
            due("by so much it goes down", x.run(0) > 0, true);
            x.set(0, 11);
            due("by one more it does not", x.run(0), -1);
            due("OVER has room, too", over().room(), 99);
        });
        edge(35, "NONE: none, no crew.", () -> {
            due("one above", heavy().room(), -1);
            due("no crew", nobody().room(), -1);
            due("a new object", new FourSledge().room(), -1);
        });
    }

    private static void sentence() {
        edge(36, "The tape is the SENTENCE now: how many ONES (each not, bracket and other one);", () -> {
            FourSledge x = down();
            due("one", Texts.sentence(x, "crew"), 1);
            due("empty then", x.count(12), 0);
            due("not", Texts.sentence(x, "not crew"), 2);
            due("bracket", Texts.sentence(x, "(crew)"), 2);
            due("all", Texts.sentence(x, "not(crew or ahead a and push<1)and gets or(weight=9)"), 8);
            due("20", Texts.sentence(x, "crew" + " and crew".repeat(19)), 20);
            due("the new one is said", x.said(-1), 4);
        });
        edge(36, "-1 less the place of a FAULT: it stays.", () -> {
            FourSledge x = down();
            Texts.sentence(x, "push>7");
            due("at 0", Texts.sentence(x, "!"), -1);
            due("of nothing", Texts.sentence(x, ""), -1);
            due("at 200", Texts.sentence(x, "crew" + " ".repeat(200)), -201);
            due("behind good ones", Texts.sentence(x, "crew or gets or ahead q"), -23);
            due("empty behind a FAULT", x.count(12), 0);
            due("it stays", x.said(-1), 2);
            FourSledge none = down();
            Texts.sentence(none, "crew or");
            due("there is none still", none.said(-1), -1);
        });
    }

    private static void said() {
        edge(37, "MEN of whom it may be said: how many (k NONE), or the k-th.", () -> {
            FourSledge x = down();
            Texts.sentence(x, "gets");
            int[] said = {3, 0, 1, 3};
            for (int k = -1; k < 3; k++) {
                due("said(" + k + ")", x.said(k), said[k + 1]);
            }
            x.jump(2, 0);
            due("as it is planned now", x.said(2), 2);
            x.undo();
            due("as it is planned now", x.said(2), 3);
            Texts.sentence(x, "not(crew)");
            due("of nobody", x.said(-1), 0);
            Texts.plan(x, "");
            due("behind plan(), of all", x.said(-1), 4);
        });
        edge(37, "NONE: there is no SENTENCE, none such.", () -> {
            due("no SENTENCE", down().said(-1), -1);
            due("no SENTENCE", down().said(0), -1);
            FourSledge x = down();
            Texts.sentence(x, "gets");
            for (int k : new int[] {3, 4, -2, Integer.MAX_VALUE, Integer.MIN_VALUE}) {
                due("said(" + k + ")", x.said(k), -1);
            }
            Texts.sentence(x, "push>9");
            due("the first of none", x.said(0), -1);
            FourSledge full = told("yards 5;" + many("man", 12, " 1 1 50;"), "");
            Texts.sentence(full, "push=1");
            due("the twelfth", full.said(11), 11);
            due("a thirteenth", full.said(12), -1);
        });
    }

    private static void image() {
        edge(38, "COURSE, PLAN, what is kept by keep(), and SENTENCE are kept in place k (0, 1): true;", () -> {
            for (int k = 0; k < 2; k++) {
                int place = k;
                FourSledge x = told(COURSE, PLAN + "start 30;");
                x.keep();
                x.set(2, 1);
                Texts.sentence(x, "gets");
                String before = view(x).replaceAll("fault .*", "");
                due("image(" + place + ")", x.image(place), true);
                due("what can be undone stays", x.undo(), 0);
                Texts.course(x, "ice 9;");
                due("restore(" + place + ")", x.restore(place), true);
                due("all is as it was", view(x).replaceAll("fault .*", "").equals(before), true);
                due("the other place is empty", x.restore(1 - place), false);
            }
        });
        edge(38, "COURSE, PLAN, what is kept by keep(), and SENTENCE are kept in place k (0, 1): true;", () -> {
            FourSledge x = down();
            x.image(0);
            x.set(2, 7);
            x.image(1);
            x.set(2, 8);
            due("place 0", x.restore(0) && x.count(10) == 1, true);
            due("place 1", x.restore(1) && x.count(10) == 7, true);
            x.set(2, 9);
            x.image(0);
            x.set(2, 10);
            due("kept anew", x.restore(0) && x.count(10) == 9, true);
            due("a new object can be kept", new FourSledge().image(0), true);
        });
        edge(38, "false: no such one.", () -> {
            for (int k : new int[] {2, -1, Integer.MAX_VALUE, Integer.MIN_VALUE}) {
                refused(EdgeHelp::down, "image(" + k + ")", x -> x.image(k));
            }
            FourSledge x = down();
            x.image(2);
            x.image(-1);
            due("nothing is kept", x.restore(0) || x.restore(1), false);
        });
    }

    private static void restore() {
        String quote = "They are as kept in place k (the tape, and what other calls told last, stays; nothing can be undone): true;";
        edge(39, quote, () -> {
            FourSledge x = down();
            x.image(0);
            x.best();
            x.line();
            int when = x.when(1);
            int height = x.height(1);
            Texts.plan(x, "lead");
            x.set(0, 9);
            x.feed(1, 2, 3, 4, 5);
            due("restore(0)", x.restore(0), true);
            due("the tape stays", x.count(12), 20);
            due("fault() stays", x.fault(), 1);
            due("when() stays", x.when(1), when);
            due("height() stays", x.height(1), height);
            due("nothing can be undone", x.undo(), -1);
            due("lead", x.count(8), 0);
            due("what best() told can be taken", x.take(1), true);
            due("take() can be undone", x.undo(), 0);
        });
        edge(39, quote, () -> {
            FourSledge x = down();
            x.image(0);
            x.keep();
            Texts.sentence(x, "crew");
            x.restore(0);
            due("none was kept", x.lost(3), NO);
            due("there was no SENTENCE", x.said(-1), -1);
            x.set(2, 9);
            x.jump(0, 0);
            x.high(0, 0);
            due("again", x.restore(0), true);
            due("an image is not changed by what comes behind it", x.run(0), 358);
            x.keep();
            x.image(1);
            x.set(2, 30);
            x.keep();
            x.restore(1);
            x.set(2, 30);
            due("nor is what is kept", x.lost(3), 61);
        });
        edge(39, "false: no such one, or nothing is kept there.", () -> {
            for (int k : new int[] {0, 1, 2, -1, Integer.MAX_VALUE, Integer.MIN_VALUE}) {
                refused(EdgeHelp::down, "restore(" + k + ")", x -> x.restore(k));
            }
            refused(() -> {
                FourSledge x = down();
                x.image(1);
                return x;
            }, "restore(0), place 1 alone kept", x -> x.restore(0));
        });
    }

    private static void count() {
        edge(40, "0 'yards', 1 'sledge', 2 'most', 3 'ice', 4 'warm', 5 MEN, 6 BENDS, 7 RUNNERS, 8 lead, 9 the RUNNER planned"
            + " (NONE: none), 10 the number, 11 whether there is a crew (1, 0), 12 bytes of the tape.", () -> {
                FourSledge x = told(COURSE + "bend 1 1 1 9;runner w 1 1;runner y 1 1;", PLAN + "lead 12;on w;start 13;");
                x.feed(0, 0, 0, 0, 0);
                x.end(17);
                int[] counts = {5, 200, 800, 1, 6, 4, 3, 4, 12, 2, 13, 1, 17};
                for (int what = 0; what < counts.length; what++) {
                    due("count(" + what + ")", x.count(what), counts[what]);
                }
                due("no RUNNERS", told(MEN, CREW).count(9), -1);
                due("no crew", nobody().count(11), 0);
            });
        edge(40, "NONE for another what.", () -> {
            for (int what : new int[] {13, -1, 14, Integer.MAX_VALUE, Integer.MIN_VALUE}) {
                due("count(" + what + ")", down().count(what), -1);
            }
        });
    }
}
