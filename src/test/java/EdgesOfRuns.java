/** The start and the way down (==== 2.), the searches and comparisons (==== 3.). */
final class EdgesOfRuns extends EdgeHelp {
    /** Nobody of these pushes from PACE 30 on: 12 is not above it. */
    private static final String SLOW = "man a 9 1 50;man b 9 1 50;man c 9 1 50;man d 9 1 50;";
    private static final String FAST = "man a 9 9 50;man b 9 9 50;man c 9 9 50;man d 9 9 50;";

    private EdgesOfRuns() { }

    static void all() {
        pushing();
        jumping();
        weighing();
        bending();
        runnerAndOver();
        bestJumps();
        bestLine();
        four();
        comparisons();
        kicks();
        newCourse();
    }

    private static FourSledge start(String men, String plan) {
        return told("yards 5;most 900;" + men, plan);
    }

    /** Four MEN with these PUSHES and FEET, 50 kilos each. */
    private static String men(int... pushAndFeet) {
        StringBuilder s = new StringBuilder();
        for (int i = 0; i < 4; i++) {
            s.append("man ").append((char) ('a' + i)).append(' ').append(pushAndFeet[2 * i]).append(' ')
                .append(pushAndFeet[2 * i + 1]).append(" 50;");
        }
        return s.toString();
    }

    /** At the line as by PLAN: 197, PACE 83, WEIGHT 500; then 'ice' 0, no RUNNERS, these BENDS. */
    private static FourSledge bends(String bends, String plan) {
        return told("yards 5;sledge 200;most 800;ice 0;warm 6;" + MEN + bends, OVER + plan);
    }

    private static int behind(String bends, String plan) {
        return bends(bends, plan).behind(0);
    }

    private static void pushing() {
        edge(0, "By a PLAN with a crew.", () -> {
            FourSledge x = nobody();
            due("without one: start", x.start(0), -1);
            due("without one: run", x.run(0), -1);
        });
        edge(0, "PACE is 30 at first, TIME 0.", () -> {
            FourSledge x = start(SLOW, CREW);
            due("30 - 4", x.pace(0), 26);
            // 26, 22, 18, 14, and 10 at the line.
            due("TIME", x.start(0), 115 + 136 + 166 + 214 + 300);
            due("all four push", start(FAST, CREW).pace(0), 30 + 36 - 4);
        });
        edge(0, "PACE is BOUNDED (10 at least, 250 at most) in each YARD behind the pushing and what makes it less, and"
            + " behind each jump;", () -> {
                // 26 - 2 - 6 - 6 = 12, then 6; 10 - 4 in each YARD from there on.
                FourSledge x = start(SLOW, CREW + "jump a 0;jump b 0;jump c 0;jump d 0;");
                for (int yard = 0; yard < 5; yard++) {
                    due("10 behind YARD " + yard, x.pace(yard), 10);
                }
                due("TIME", x.start(0), 5 * 300);
                due("12 behind three", start(SLOW, CREW + "jump a 0;jump b 0;jump c 0;").pace(0), 12);
            });
        edge(0, "PACE is BOUNDED (10 at least, 250 at most) in each YARD behind the pushing and what makes it less, and"
            + " behind each jump;", () -> {
                // BOUNDED behind both: 10 + 9 - 4 is 15, and not 10 bounded ahead of pushing.
                FourSledge x = start(men(9, 1, 9, 1, 9, 1, 9, 1), CREW + "jump a 0;jump b 0;jump c 0;");
                due("12: d does not push; 12 - 4 - 1 is 7", x.pace(1), 10);
                due("10: d pushes, 10 + 9 - 4 - 1", x.pace(2), 14);
                due("14: 14 - 4 - 1 is 9", x.pace(3), 10);
            });
        edge(0, "in each BEND behind all.", () -> {
            FourSledge x = told("yards 5;sledge 300;most 900;ice 9;man a 9 9 150;man b 9 9 150;man c 9 9 150;"
                + "man d 9 9 150;" + "bend 1 9 0 99;".repeat(4) + "bend 1 1 9 99;", CREW + "high 4 0;start 60;");
            // 62, 94, 126, 122, 118 - 20; 81 - 9 - 12 more in each of the four.
            int[] paces = {158, 218, 250, 250, 250 + 9 - 27 - 9 - 12};
            for (int b = 0; b < 5; b++) {
                due("behind BEND " + b, x.behind(b), paces[b]);
            }
        });
        edge(0, "in each BEND behind all.", () -> {
            FourSledge x = told("yards 5;" + SLOW + "bend 1 0 9 99;bend 1 9 0 99;", CREW + "start 60;");
            due("10 at least", x.behind(0), 10);
            // 10 + 9 * 410 / 100 - 18 - 2 - 12: from 10, not from 10 - 18 bounded.
            due("behind all", x.behind(1), 14);
        });
        edge(0, "YARD by YARD: each MAN of the crew who is not in yet adds his PUSH,", () -> {
            FourSledge x = start(men(9, 9, 5, 9, 3, 9, 1, 9), CREW + "jump a 0;");
            due("30 + 18 - 4 - 2", x.pace(0), 42);
            due("42 + 9 - 4: without a", x.pace(1), 47);
            FourSledge e = start(men(9, 9, 5, 9, 3, 9, 1, 9) + "man e 9 9 50;", CREW);
            due("who is not of the crew adds nothing", e.pace(0), 44);
        });
        edge(0, "if PACE was below 12 times his FEET at its beginning;", () -> {
            FourSledge at = start(men(3, 3, 3, 3, 2, 3, 2, 3), CREW);
            due("36", at.pace(0), 36);
            due("36 is not below 36", at.pace(1), 32);
            due("32 is", at.pace(2), 38);
            FourSledge below = start(men(3, 3, 3, 3, 2, 3, 1, 3), CREW);
            due("35", below.pace(0), 35);
            due("35 is below 36", below.pace(1), 40);
            FourSledge own = start(men(9, 9, 9, 3, 9, 1, 9, 2), CREW);
            due("each by his own FEET: a and b", own.pace(0), 44);
            due("then a alone", own.pace(1), 49);
        });
        edge(0, "then PACE is 4 less, and less by the WEIGHTS of those in, by 100 (cut);", () -> {
            int[][] less = {{99, 50, 0}, {100, 50, 1}, {150, 50, 1}};
            for (int[] l : less) {
                FourSledge x = start(SLOW.replaceFirst("1 50", "1 " + l[0]), CREW + "jump a 0;");
                due("26 - 2", x.pace(0), 24);
                due("one of " + l[0], x.pace(1), 20 - l[2]);
            }
            int[][] both = {{50, 49 + 1, 1}, {149, 50, 1}, {150, 50, 2}};
            for (int[] l : both) {
                FourSledge x = start(SLOW.replaceFirst("1 50", "1 " + l[0]), CREW + "jump a 0;jump b 0;");
                due("26 - 2 - 6", x.pace(0), 18);
                due("both, " + l[0] + " and " + l[1], x.pace(1), 14 - l[2]);
            }
        });
    }

    private static void jumping() {
        edge(0, "then, MAN by MAN as the crew is told, those whose YARD it is:", () -> {
            String men = men(9, 9, 9, 9, 9, 9, 5, 3);
            // 30 + 32 - 4 = 58: d has 56.
            FourSledge behind = start(men, "crew a b c d;jump c 0;jump d 0;");
            due("c makes it 56: d is not LATE", behind.jumps(3), 1);
            due("58 - 2 - 6", behind.pace(0), 50);
            FourSledge ahead = start(men, "crew a b d c;jump c 0;jump d 0;");
            due("d ahead of c is LATE", ahead.jumps(2), 2);
            due("c is CLEAN then", ahead.jumps(3), 0);
            due("58 - 2", ahead.pace(0), 56);
            FourSledge told = start(men, "crew a b c d;jump d 0;jump c 0;");
            due("not as the jumps are told", told.pace(0), 50);
        });
        edge(0, "LATE is who has 12 times his FEET and 20 below PACE now: he is left;", () -> {
            FourSledge at = start(men(9, 9, 9, 9, 9, 9, 3, 3), CREW + "jump d 0;");
            due("56 is not below 56", at.jumps(3), 0);
            due("56 - 2", at.pace(0), 54);
            FourSledge late = start(men(9, 9, 9, 9, 9, 9, 4, 3), CREW + "jump d 0;");
            due("56 is below 57", late.jumps(3), 2);
            due("57 stays", late.pace(0), 57);
            due("he is left", late.start(3), 8);
            due("and not in", late.start(2) & 8, 0);
        });
        edge(0, "else he is in, and PACE is 2 less (CLEAN), or 6 (CROWDED: another one got in in this YARD or the one"
            + " ahead), 10 more by a KICK.", () -> {
                FourSledge same = start(FAST, CREW + "jump b 0;jump c 0;");
                due("the first in a YARD", same.jumps(1), 0);
                due("the second", same.jumps(2), 1);
                due("62 - 2 - 6", same.pace(0), 54);
                FourSledge next = start(FAST, CREW + "jump b 0;jump a 1;");
                due("the YARD ahead", next.jumps(0), 1);
                due("60, 60 + 27 - 4 - 6", next.pace(1), 77);
                FourSledge two = start(FAST, CREW + "jump b 0;jump a 2;");
                due("two YARDS ahead", two.jumps(0), 0);
                FourSledge behind = start(FAST, CREW + "jump a 0;jump b 1;jump c 1;");
                due("who comes next does not crowd him", behind.jumps(0), 0);
            });
        edge(0, "else he is in, and PACE is 2 less (CLEAN), or 6 (CROWDED: another one got in in this YARD or the one"
            + " ahead), 10 more by a KICK.", () -> {
                // d LATE in YARD 0 (57), c in YARD 1: nobody got in ahead of him.
                FourSledge x = start(men(9, 9, 9, 9, 9, 9, 4, 3), CREW + "jump d 0;jump c 1;");
                due("one who is LATE crowds nobody", x.jumps(2), 0);
                due("57 + 27 - 4 - 2", x.pace(1), 78);
                FourSledge same = start(men(4, 3, 9, 9, 9, 9, 9, 9), CREW + "jump a 0;jump b 0;");
                due("in one YARD, too", same.jumps(1), 0);
                due("57 - 2", same.pace(0), 55);
            });
        edge(0, "else he is in, and PACE is 2 less (CLEAN), or 6 (CROWDED: another one got in in this YARD or the one"
            + " ahead), 10 more by a KICK.", () -> {
                // SLOW ones, a in YARD 0: 26 - 2, by a KICK 14; the others in YARD 4 come to 10 anyhow.
                FourSledge x = start(SLOW, CREW + "jump a 0;");
                due("without: 24, 20, 16, 12, 10", x.start(0), 125 + 150 + 187 + 250 + 300);
                int seed = seedOf(0, 1, 1, 1);
                // 14; 10; at 10 b, c, d push: 10 + 27 - 4 = 33; 29; 25 - 2 - 6 - 6.
                due("by a KICK", x.drawn(seed), 214 + 300 + 90 + 103 + 272);
            });
        edge(0, "Then TIME is 3000 by PACE more (cut).", () -> {
            FourSledge x = down();
            due("53 + 37 + 36 + 35 + 36, each cut", x.start(0), 197);
            due("56, 80, 83, 84, 83", 3000 / 56 + 3000 / 80 + 3000 / 83 + 3000 / 84 + 3000 / 83, 197);
        });
        edge(0, "Who is LATE pushes no more.", () -> {
            FourSledge x = told("yards 12;most 900;" + men(9, 9, 9, 9, 9, 9, 4, 3),
                CREW + "jump d 0;jump a 1;jump b 1;jump c 1;");
            // 57, 80 - 14, then 5 less in each YARD.
            int[] paces = {57, 66, 61, 56, 51, 46, 41, 36, 31, 26, 21, 16};
            for (int yard = 0; yard < 12; yard++) {
                due("pace(" + yard + ")", x.pace(yard), paces[yard]);
            }
        });
    }

    private static void weighing() {
        edge(0, "WEIGHT: that of the sledge, the lead, all who are in.", () -> {
            due("without c, who is LATE", down().start(4), 200 + 100 + 90 + 110);
            due("with lead", told(COURSE, PLAN + "lead 99;").start(4), 599);
            FourSledge left = told("yards 6;" + SLOW, CREW + "lead 1;");
            due("nobody in", left.start(2), 0);
            due("the sledge and the lead", left.start(4), 211);
            due("all in", start(FAST, CREW).start(4), 210 + 200);
        });
        edge(0, "Above 'most' it does not go down.", () -> {
            due("just 'most'", told(COURSE.replace("most 800", "most 500"), PLAN).run(0), 358);
            due("one above", heavy().run(0), -1);
            due("one above: no BEND gone", heavy().run(2), 0);
            due("by lead: just", told(COURSE.replace("most 800", "most 501"), PLAN + "lead 1;").run(0) > 0, true);
            due("by lead: above", told(COURSE.replace("most 800", "most 501"), PLAN + "lead 2;").run(0), -1);
            due("the start all the same", heavy().start(0), 197);
        });
    }

    private static void bending() {
        edge(0, "BEND by BEND: PACE is more by DROP times WEIGHT by 100 (cut),", () -> {
            due("0", behind("bend 1 0 0 99;", ""), 83);
            due("500", behind("bend 1 1 0 99;", ""), 88);
            due("599", behind("bend 1 1 0 99;", "lead 99;"), 88);
            due("9 * 599 = 5391: times first, then cut", behind("bend 1 9 0 99;", "lead 99;"), 83 + 53);
            FourSledge x = told("yards 5;sledge 201;most 800;ice 0;" + MEN + "bend 1 1 0 99;", OVER + "lead 99;");
            due("600", x.behind(0), 89);
            FourSledge two = bends("bend 1 1 0 99;bend 1 2 0 99;", "");
            due("from that of the BEND ahead", two.behind(1), 98);
        });
        edge(0, "less by 3 for each HEIGHT off the LINE,", () -> {
            int[] paces = {68, 69, 70, 71, 72, 73, 68, 63, 58, 53};
            for (int height = 0; height <= 9; height++) {
                due("HEIGHT " + height + " by LINE 5", behind("bend 1 0 5 99;", "high 0 " + height + ";"), paces[height]);
            }
        });
        edge(0, "by 2 for each HEIGHT from that of the BEND ahead (0 ahead of the first),", () -> {
            due("the first", behind("bend 1 0 9 99;", ""), 83 - 18);
            due("higher", bends("bend 1 0 5 99;bend 1 0 9 99;", "").behind(1), 73 - 8);
            due("lower", bends("bend 1 0 5 99;bend 1 0 3 99;", "").behind(1), 73 - 4);
            due("as high", bends("bend 1 0 5 99;bend 1 0 5 99;", "").behind(1), 73);
            due("from its HEIGHT, not its LINE", bends("bend 1 0 5 99;bend 1 0 5 99;", "high 0 4;").behind(1), 72 - 2);
        });
        edge(0, "by 'ice', the number by 5 (cut),", () -> {
            for (int ice = 0; ice <= 9; ice += 9) {
                FourSledge x = told("yards 5;sledge 200;most 800;ice " + ice + ";" + MEN + "bend 1 0 0 99;", OVER);
                due("'ice' " + ice, x.behind(0), 83 - ice);
            }
            int[][] numbers = {{1, 0}, {4, 0}, {5, 1}, {9, 1}, {10, 2}, {59, 11}, {60, 12}};
            for (int[] n : numbers) {
                due("number " + n[0], behind("bend 1 0 0 99;", "start " + n[0] + ";"), 83 - n[1]);
            }
        });
    }

    private static void runnerAndOver() {
        edge(0, "and what the RUNNER is BAD times the degrees off its BEST ('warm' and the number by 3, cut), by 4 (cut;"
            + " none without RUNNERS).", () -> {
                int[][] cases = {{6, 4, 2, 0}, {6, 4, 3, 1}, {6, 3, 3, 0}, {6, 3, 5, 0}, {6, 3, 6, 1}, {0, 9, 1, 13},
                    {20, 9, 1, 31}, {20, 9, 42, 0}, {20, 9, 45, 2}, {6, 9, 60, 45}, {6, 0, 60, 0}, {7, 4, 1, 1},
                    {7, 4, 3, 0}, {7, 4, 6, 1}};
                for (int[] c : cases) {
                    String line = "runner v " + c[0] + " " + c[1] + ";";
                    FourSledge x = bends("bend 1 0 0 99;" + line, "start " + c[2] + ";");
                    due(line + " by number " + c[2], x.runner(0, 2), c[3]);
                    due(line + " by number " + c[2] + ": PACE", x.behind(0), 83 - c[2] / 5 - c[3]);
                }
                due("none without RUNNERS", behind("bend 1 0 0 99;", "start 60;"), 83 - 12);
                due("the one planned", behind("bend 1 0 0 99;runner v 6 9;runner w 0 9;", "on w;"), 83 - 13);
                due("the one planned", behind("bend 1 0 0 99;runner v 6 9;runner w 0 9;", "on v;"), 83);
            });
        edge(0, "It turns OVER, if PACE then times HEIGHT is above 20 times OVER: there it ends.", () -> {
            // 83 - 8 = 75, times 4 is 300.
            due("300 is not above 300", bends("bend 1 0 4 15;", "").run(3), -1);
            due("300 is above 280", bends("bend 1 0 4 14;", "").run(3), 0);
            due("HEIGHT 0 never", bends("bend 1 9 0 1;", "lead 99;").run(3), -1);
            FourSledge x = bends("bend 1 0 0 99;bend 1 0 4 1;bend 1 0 0 99;", "");
            due("there", x.run(3), 1);
            due("it ends: BENDS gone", x.run(2), 1);
            due("it ends: behind the next", x.behind(2), -1);
            due("it ends: no TIME", x.run(0), -1);
        });
        edge(0, "It turns OVER, if PACE then times HEIGHT is above 20 times OVER: there it ends.", () -> {
            // PACE as BOUNDED: 250 times 4 is 1000.
            String course = "yards 5;sledge 300;most 900;ice 0;man a 9 9 150;man b 9 9 150;man c 9 9 150;man d 9 9 150;"
                + "bend 1 9 4 99;".repeat(2) + "bend 1 9 4 ";
            due("1000 is not above 1000", told(course + "50;", CREW).run(3), -1);
            due("1000 is above 980", told(course + "49;", CREW).run(3), 2);
            due("PACE there", told(course + "49;", CREW).run(1), 250);
        });
        edge(0, "Then TIME is LENGTH times 3000 by PACE more (cut).", () -> {
            // 83 - 14 = 69: 27000 by 69 is 391, 9 times 43 would be 387.
            due("9 * 3000 / 69", bends("bend 9 0 7 99;", "").run(0), 197 + 391);
            // 83 - 18 - 9 - 1 = 55: 27000 by 55 is 490.9.
            due("9 * 3000 / 55", told("yards 5;sledge 200;most 800;ice 9;" + MEN + "bend 9 0 9 99;", OVER + "start 5;")
                .run(0), 197 + 490);
            due("3000 / 83 in each", bends("bend 1 0 0 99;bend 1 0 0 99;", "").run(0), 197 + 36 + 36);
            due("no BENDS", bends("", "").run(0), 197);
        });
    }

    /** All YARDS tried: TIME and YARDS of the first of the least, {-1} if there is none. */
    private static int[] tryAll(String course, String plan, int yards, boolean allowAll) {
        int[] best = {-1};
        String bestOrder = "";
        FourSledge x = null;
        for (int i = 0; i < yards * yards * yards * yards; i++) {
            // No object is asked more than 512 times.
            x = i % 64 == 0 ? told(course, plan) : x;
            int[] y = {i % yards, i / yards % yards, i / yards / yards % yards, i / yards / yards / yards};
            char[] order = "0".repeat(yards).toCharArray();
            for (int c = 0; c < 4; c++) {
                order[y[c]] = (char) ('1' + c);
                x.jump(c, y[c]);
            }
            String text = new String(order);
            int time = x.run(0);
            if (time < 0 || !allowAll && (text.replace("0", "").length() < 4 || x.start(2) != 15)) {
                continue;
            }
            if (best[0] < 0 || time < best[0] || time == best[0] && text.compareTo(bestOrder) < 0) {
                best = new int[] {time, y[0], y[1], y[2], y[3]};
                bestOrder = text;
            }
        }
        return best;
    }

    private static void bestIs(String course, String plan, int yards) {
        int[] least = tryAll(course, plan, yards, false);
        FourSledge x = told(course, plan);
        due("best() of " + course + plan, x.best(), least[0]);
        for (int c = 0; c < 4; c++) {
            due("when(" + c + ") of " + course + plan, x.when(c), least[0] < 0 ? -1 : least[1 + c]);
        }
    }

    private static void bestJumps() {
        edge(0, "BEST JUMPS of the crew: one MAN a YARD at most, none LATE, all in:", () -> {
            bestIs(COURSE, PLAN, 5);
            FourSledge x = down();
            int best = x.best();
            x.take(1);
            due("all in", x.start(2), 15);
            due("none LATE", x.start(3), 0);
            due("TIME", x.run(0), best);
            due("one MAN a YARD: some PLAN that is none such takes less", tryAll(COURSE, PLAN, 5, true)[0] < best, true);
            // a has 32, all come to 62 in YARD 0.
            due("a is LATE anywhere", start(men(9, 1, 9, 9, 9, 9, 9, 9), CREW).best(), -1);
        });
        edge(0, "BEST JUMPS of the crew: one MAN a YARD at most, none LATE, all in:", () -> {
            // c has 32 and PACE is 30 + 6 - 4 in YARD 0: he just gets in. By one PUSH more another one goes ahead of him.
            String men = men(2, 9, 2, 9, 2, 1, 2, 9);
            FourSledge x = start(men, CREW);
            due("c just gets in", x.best() > 0, true);
            due("c's YARD", x.when(2), 0);
            bestIs("yards 5;most 900;" + men, CREW, 5);
            FourSledge more = start(men.replace("d 2", "d 3"), CREW);
            due("one PUSH more", more.best() > 0, true);
            due("c's YARD then", more.when(2) > 0, true);
            bestIs("yards 5;most 900;" + men.replace("d 2", "d 3"), CREW, 5);
            bestIs("yards 6;most 900;" + men, "crew c a d b;", 6);
        });
        edge(0, "so that TIME in all (lead, HEIGHTS, RUNNER, number as planned; not above 'most', not OVER) is least;", () -> {
            bestIs(COURSE, PLAN + "lead 99;", 5);
            for (int weight = 97; weight <= 102; weight++) {
                bestIs("yards 5;most 900;man a 3 3 " + weight + ";man b 3 3 " + weight + ";man c 2 4 " + weight
                    + ";man d 3 3 " + weight + ";", CREW, 5);
            }
            bestIs(COURSE, PLAN + "on r;", 5);
            bestIs(COURSE, PLAN + "start 60;", 5);
            bestIs(COURSE, OVER + "high 1 0;high 0 0;", 5);
            bestIs(COURSE.replace("yards 5", "yards 6"), PLAN + "lead 7;start 33;on r;", 6);
            due("just 'most'", told(COURSE.replace("most 800", "most 570"), PLAN).best() > 0, true);
            due("above 'most'", told(COURSE.replace("most 800", "most 569"), PLAN).best(), -1);
            due("above 'most' by lead", told(COURSE.replace("most 800", "most 570"), PLAN + "lead 1;").best(), -1);
        });
        edge(0, "so that TIME in all (lead, HEIGHTS, RUNNER, number as planned; not above 'most', not OVER) is least;", () -> {
            // The less a BEND bears, the slower must be who comes to it, until nobody may.
            boolean lesser = false;
            int last = told(COURSE, CREW + "high 0 4;high 1 0;").best();
            for (int over = 40; over >= 1; over--) {
                String course = COURSE.replace("4 40;", "4 " + over + ";");
                bestIs(course, CREW + "high 0 4;high 1 0;", 5);
                int best = told(course, CREW + "high 0 4;high 1 0;").best();
                lesser |= best > last;
                last = best;
            }
            due("OVER makes it more", lesser, true);
            due("OVER always", last, -1);
        });
        edge(0, "of like ones the first (YARD by YARD nobody ahead of all, then by the crew's order).", () -> {
            bestIs("yards 6;most 900;" + FAST, "crew d b a c;", 6);
            bestIs("yards 6;most 900;" + SLOW, CREW, 6);
            bestIs("yards 7;most 900;man a 3 2 150;man b 3 2 150;man c 4 2 150;man d 4 2 150;", "crew c b d a;", 7);
            bestIs("yards 5;most 900;" + men(1, 2, 1, 2, 1, 3, 1, 3), CREW, 5);
            FourSledge x = start(FAST, "crew d c b a;");
            x.best();
            for (int place = 0; place < 3; place++) {
                due("alike: by the crew's order", x.when(place) < x.when(place + 1), true);
            }
        });
    }

    private static void lineIs(String course, String plan) {
        FourSledge x = told(course, plan);
        int bends = x.count(6);
        int ways = bends == 3 ? 1000 : 100;
        int least = -1;
        int first = 0;
        for (int i = 0; i < ways; i++) {
            x = i % 100 == 0 ? told(course, plan) : x;
            for (int b = 0, rest = i; b < bends; b++) {
                x.high(bends - 1 - b, rest % 10);
                rest /= 10;
            }
            int time = x.run(0);
            if (time >= 0 && (least < 0 || time < least)) {
                least = time;
                first = i;
            }
        }
        FourSledge y = told(course, plan);
        due("line() of " + course + plan, y.line(), least);
        for (int b = bends - 1, rest = first; b >= 0; b--) {
            due("height(" + b + ") of " + course + plan, y.height(b), least < 0 ? -1 : rest % 10);
            rest /= 10;
        }
    }

    private static void bestLine() {
        String free = "yards 5;sledge 200;most 800;ice 0;warm 6;" + MEN;
        edge(0, "BEST LINE: HEIGHTS by which TIME in all is least (the start as planned);", () -> {
            lineIs(COURSE, OVER);
            lineIs(COURSE, PLAN + "lead 99;on r;start 60;");
            lineIs(COURSE, CREW);
            lineIs(free + "bend 1 9 9 30;bend 9 3 0 10;bend 4 5 6 7;", OVER);
            lineIs(free + "bend 9 9 9 99;bend 9 9 9 99;bend 9 9 0 99;", OVER);
            lineIs(free + "bend 1 0 9 1;bend 1 0 9 1;bend 1 9 9 9;", OVER);
            lineIs(free + "bend 1 9 0 99;bend 9 9 1 1;bend 9 9 9 1;", OVER + "lead 99;");
        });
        edge(0, "of like ones the first (BEND by BEND the lesser).", () -> {
            // PACE is 10 whatever the HEIGHTS are.
            FourSledge x = told("yards 5;" + SLOW + "bend 1 0 9 99;".repeat(12), CREW);
            due("twelve BENDS", x.line(), x.run(0));
            for (int b = 0; b < 12; b++) {
                due("height(" + b + ")", x.height(b), 0);
            }
            lineIs(free + "bend 1 0 2 99;bend 1 0 1 99;bend 1 0 4 99;", OVER);
            lineIs(free + "bend 1 9 9 99;bend 1 9 0 99;bend 1 9 9 99;", OVER + "lead 99;");
            lineIs("yards 5;ice 9;" + SLOW + "bend 1 1 2 99;bend 2 1 0 99;bend 1 9 1 3;", CREW);
        });
    }

    private static void four() {
        edge(0, "FOUR: of 6 MEN at most (rising by numbers) those who by their BEST JUMPS take the least TIME;", () -> {
            String six = COURSE + "man e 9 9 60;man f 8 8 60;";
            FourSledge x = told(six, "high 1 0;lead 5;start 9;on r;");
            int least = -1;
            int set = -1;
            for (int bits = 0; bits < 64; bits++) {
                if (Integer.bitCount(bits) == 4) {
                    StringBuilder crew = new StringBuilder("high 1 0;lead 5;start 9;on r;crew");
                    for (int m = 0; m < 6; m++) {
                        crew.append((bits >> m & 1) == 1 ? " " + "abcdef".charAt(m) : "");
                    }
                    int time = told(six, crew + ";").best();
                    if (time >= 0 && (least < 0 || time < least)) {
                        least = time;
                        set = bits;
                    }
                }
            }
            due("six MEN", x.four(), set);
            due("four MEN", told(COURSE, "high 1 0;").four(), 15);
            due("three MEN", told("man a 1 9 50;man b 1 9 50;man c 1 9 50;", "").four(), -1);
            due("no MEN", new FourSledge().four(), -1);
            due("seven MEN", told("yards 5;most 900;" + many("man", 7, " 5 5 50;"), "").four(), -1);
            due("six MEN alike", told("yards 5;most 900;" + many("man", 6, " 5 5 50;"), "").four(), 15);
        });
        edge(0, "of like ones the first set.", () -> {
            // 210 + 240 is just 'most': a set with one of 61 kilos has no TIME.
            String alike = "yards 5;most 450;" + many("man", 6, " 5 5 60;");
            due("alike", told(alike, "").four(), 15);
            String[] out = {"a", "d", "ab", "cf", "abc"};
            int[] sets = {30, 1 + 2 + 4 + 16, 60, 1 + 2 + 8 + 16, -1};
            for (int i = 0; i < out.length; i++) {
                String course = alike;
                for (char name : out[i].toCharArray()) {
                    course = course.replace("man " + name + " 5 5 60", "man " + name + " 5 5 61");
                }
                due("without " + out[i], told(course, "").four(), sets[i]);
            }
        });
    }

    private static void comparisons() {
        edge(0, "KILO: by how much TIME in all is less with so much more lead (as planned else).", () -> {
            FourSledge x = told(COURSE, PLAN + "start 30;on r;");
            FourSledge more = told(COURSE, PLAN + "start 30;on r;lead 99;");
            due("less", x.kilo(99), x.run(0) - more.run(0));
            due("and not 0", x.kilo(99) > 0, true);
            due("none", bends("bend 1 0 0 99;", "").kilo(99), 0);
            // 197 + 71 + 90 less 197 + 70 + 86.
            due("by hand", down().kilo(99), 5);
        });
        edge(0, "RUNNERS: the one with the least TIME in all (of like ones the first).", () -> {
            String bend = "bend 9 0 0 99;";
            due("the second", bends(bend + "runner v 0 9;runner w 6 9;", "").runners(), 1);
            due("the first of like ones", bends(bend + "runner v 0 9;runner w 6 9;runner x 6 0;", "").runners(), 1);
            due("all alike", bends(bend + many("runner", 6, "r 6 9;"), "on fr;").runners(), 0);
            due("the sixth", bends(bend + many("runner", 5, "r 0 9;") + "runner x 6 9;", "").runners(), 5);
        });
        edge(0, "FOUR RUNS by their numbers: all TIMES together.", () -> {
            FourSledge x = down();
            int sum = 0;
            for (int number : new int[] {1, 17, 60, 60}) {
                sum += told(COURSE, PLAN + "start " + number + ";").run(0);
            }
            due("1, 17, 60, 60", runs(x, 1, 17, 60, 60), sum);
            due("60, 1, 60, 17", runs(x, 60, 1, 60, 17), sum);
        });
        edge(0, "LOST: by how much TIME in all is more by the PLAN than by the one of a kept PLAN: 0 on the start, 1 by PACE"
            + " at the line (the kept one's way down with the PLAN's PACE, less the kept one's way down), 2 the rest.", () -> {
                FourSledge x = down();
                x.keep();
                x.jump(2, 0);
                // By hand in PromiseTest: 227 and 414 now, 197 and 358 kept; 193 down with 68, else 161.
                int[] lost = {30, 32, -6, 56};
                for (int what = 0; what < 4; what++) {
                    due("lost(" + what + ")", x.lost(what), lost[what]);
                }
                x.undo();
                x.high(0, 5);
                due("the rest alone: on the start", x.lost(0), 0);
                due("the rest alone: by PACE", x.lost(1), 0);
                due("the rest alone", x.lost(2), x.run(0) - 358);
                due("the rest alone: all", x.lost(3), x.run(0) - 358);
            });
        edge(0, "TOUCH: by how much TIME in all is more, if PACE is so much less (10 at least) behind a BEND (ahead of its"
            + " TIME, behind looking whether it turns OVER).", () -> {
                FourSledge x = bends("bend 1 0 0 99;", "");
                due("83 - 8: 40 for 36", x.touch(0, 8), 4);
                due("83 - 73: 300 for 36", x.touch(0, 73), 264);
                due("10 at least", x.touch(0, 74), 264);
                due("10 at least", x.touch(0, 99), 264);
                // 75 times 4 is above 280: less PACE comes too late.
                due("OVER all the same", bends("bend 1 0 4 14;", "").touch(0, 50), NO);
                FourSledge two = bends("bend 1 0 0 99;bend 1 0 0 99;", "");
                due("the next BEND goes on from there", two.touch(0, 8), 4 + 4);
                due("the last alone", two.touch(1, 8), 4);
            });
    }

    /** The draws of 8 by a seed, in numbers that do not wrap. */
    private static int[] draws(int seed) {
        long x = seed & 0xffffffffL;
        int[] draws = new int[4];
        for (int i = 0; i < 4; i++) {
            x = (x * 1103515245L + 12345L) % (1L << 32);
            draws[i] = (int) (x / 256 % 8);
        }
        return draws;
    }

    /** The first seed whose draws are 0 where these are. */
    private static int seedOf(int... kicks) {
        for (int seed = 0; seed < 100000; seed++) {
            int[] draws = draws(seed);
            boolean good = true;
            for (int i = 0; i < 4; i++) {
                good &= (draws[i] == 0) == (kicks[i] == 0);
            }
            if (good) {
                return seed;
            }
        }
        throw new IllegalStateException("no seed");
    }

    private static void kicks() {
        String quote = "KICKS are DRAWN by a seed x: for each draw of n x becomes x * 1103515245 + 12345 (an int, wrapping),"
            + " the draw is (x >>> 8) % n: for each MAN who gets in, in that order, a draw of 8: 0: a KICK.";
        edge(0, quote, () -> {
            // d alone kicks: 85 - 12 = 73 at the line, 202; 74, TIME 81; 89, TIME 101.
            int third = seedOf(1, 1, 0, 1);
            due("c, who is LATE, draws nothing", down().drawn(third), 202 + 81 + 101);
            due("the fourth draw is nobody's", down().drawn(seedOf(1, 1, 1, 0)), 358);
            due("no KICK", down().drawn(seedOf(1, 1, 1, 1)), 358);
        });
        edge(0, quote, () -> {
            FourSledge x = start(FAST, CREW + "jump d 0;jump c 2;jump b 4;jump a 4;");
            // 62 - 2 - 10 = 50; 73; 96 - 2; 94 + 18 - 4 - 1 = 107; 107 + 18 - 4 - 1 = 120 - 2 - 6.
            due("d is the first who gets in", x.drawn(seedOf(0, 1, 1, 1)), 60 + 41 + 31 + 28 + 26);
            // 60; 83; 106 - 12 = 94; 107; 120 - 8.
            due("c is the second", x.drawn(seedOf(1, 0, 1, 1)), 50 + 36 + 31 + 28 + 26);
            // 60; 83; 104; 104 + 18 - 5 = 117; 112 - 8 - 10 = 94 behind a's and b's jumps.
            due("a is the third, by the crew's order", x.drawn(seedOf(1, 1, 0, 1)), 50 + 36 + 28 + 25 + 31);
            due("without a KICK: 104 at the line", x.drawn(seedOf(1, 1, 1, 1)), 50 + 36 + 28 + 25 + 28);
        });
        edge(0, quote, () -> {
            FourSledge x = down();
            for (int seed : new int[] {Integer.MIN_VALUE, Integer.MAX_VALUE, -1, 0, 1 << 30, -12345}) {
                int[] draws = draws(seed);
                int kicks = (draws[0] == 0 ? 1 : 0) + (draws[1] == 0 ? 2 : 0) + (draws[2] == 0 ? 4 : 0);
                int[] times = {358, 0, 0, 0, 384};
                if (kicks == 0 || kicks == 4) {
                    due("drawn(" + seed + ")", x.drawn(seed), times[kicks]);
                } else {
                    due("drawn(" + seed + ") is another one", x.drawn(seed) > 358, true);
                }
            }
            due("wraps: -1 and 1 << 31 more", x.drawn(-1), x.drawn(Integer.MAX_VALUE));
        });
    }

    private static void newCourse() {
        edge(0, "A new COURSE: no PLAN (an empty one without a crew), none is kept, no SENTENCE.", () -> {
            FourSledge x = told(COURSE, PLAN + "lead 9;on r;start 9;");
            Texts.sentence(x, "crew");
            x.keep();
            due("the same COURSE told again", Texts.course(x, COURSE), 13);
            due("no crew", x.count(11), 0);
            due("no lead", x.count(8), 0);
            due("the first RUNNER", x.count(9), 0);
            due("number 1", x.count(10), 1);
            due("HEIGHTS as LINES", x.bend(1, 4), 2);
            due("no SENTENCE", x.said(-1), -1);
            due("nothing to be undone", x.undo(), -1);
            Texts.plan(x, PLAN);
            due("none is kept", x.lost(3), NO);
        });
        edge(0, "A new COURSE: no PLAN (an empty one without a crew), none is kept, no SENTENCE.", () -> {
            FourSledge x = down();
            x.set(0, 5);
            x.keep();
            Texts.sentence(x, "crew");
            due("a COURSE with a FAULT is none", Texts.course(x, "ice 10;"), -5);
            due("the crew stays", x.count(11), 1);
            due("what is kept stays", x.lost(3), 0);
            due("the SENTENCE stays", x.said(-1), 4);
            due("what can be undone stays", x.undo(), 0);
        });
        edge(0, "A call that throws changes nothing.", () -> {
            FourSledge x = down();
            x.set(0, 5);
            x.keep();
            x.best();
            x.line();
            Texts.sentence(x, "gets");
            x.feed(1, 2, 3, 4, 5);
            String before = view(x);
            due("throws", throwsNone(x, 4, 0), true);
            due("throws", throwsNone(x, 0, 5), true);
            due("nothing changes", view(x).equals(before), true);
            due("nor what can be undone", x.undo(), 0);
        });
    }
}
