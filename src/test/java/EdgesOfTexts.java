/** TOKENS, the COURSE, the PLAN, the SENTENCE and the four FAULTS. */
final class EdgesOfTexts extends EdgeHelp {
    private static final String[] WORDS = {"yards", "sledge", "most", "ice", "warm", "man", "bend", "runner", "crew",
        "jump", "lead", "high", "on", "start", "or", "and", "not", "gets", "ahead", "push", "feet", "weight", "number"};

    private EdgesOfTexts() { }

    static void all() {
        tokens();
        courseSize();
        settings();
        menBendsRunners();
        names();
        planSize();
        crews();
        jumps();
        planNumbers();
        sentenceSize();
        sentenceParts();
        sentenceTruths();
        faultsOfTokens();
        faultsOfNumbersAndNames();
        faultsOfMany();
    }

    private static void tokens() {
        edge(0, "TOKENS of all texts, with blanks (32, 10) between them or not:", () -> {
            courseIs(" \n yards\n\n5 \n; ", 1);
            courseIs("yards 5;ice 1;", 2);
            planIs("\nlead\n 7\n;\n", 1);
            sentenceIs("push<5 and crew", 2);
            sentenceIs("(crew)or(gets)", 4);
            sentenceIs("\n( crew )\nor ( gets ) \n", 4);
            courseFault("ya rds 5;", 1, 0);
            courseFault("yards 1 0;", 2, 6);
            courseFault("yards 10 0;", 1, 9);
            planFault("le\nad 1;", 1, 0);
            sentenceFault("cr ew", 1, 0);
        });
        edge(0, "TOKENS of all texts, with blanks (32, 10) between them or not:", () -> {
            for (int sign = 0; sign < 256; sign++) {
                boolean blank = sign == 32 || sign == 10;
                String text = "ice" + (char) sign + "1;";
                boolean row = sign >= 'a' && sign <= 'z' || sign >= '0' && sign <= '9';
                if (blank) {
                    courseIs(text, 1);
                } else {
                    courseFault(text, 1, row ? 0 : 3);
                }
            }
        });
        edge(0, "WORDS: small letters, 1 to 7;", () -> {
            courseIs("man a 1 1 50;man z 1 1 50;man abcdefg 1 1 50;", 3);
            courseFault("man abcdefgh 1 1 50;", 1, 4);
            courseFault("sledgess 100;", 1, 0);
            courseFault("man A 1 1 50;", 1, 4);
            courseFault("Man a 1 1 50;", 1, 0);
            courseFault("man ` 1 1 50;", 1, 4);
            courseFault("man { 1 1 50;", 1, 4);
            courseFault("man a`b 1 1 50;", 1, 5);
            courseFault("man a_b 1 1 50;", 1, 5);
            courseFault("man " + (char) 225 + " 1 1 50;", 1, 4);
        });
        edge(0, "NUMBERS: 1 to 3 digits;", () -> {
            courseIs("ice 1;yards 05;sledge 100;", 3);
            courseIs("ice 009;", 1);
            courseFault("ice 0009;", 1, 4);
            courseFault("ice /;", 1, 4);
            courseFault("ice :;", 1, 4);
            courseFault("ice -1;", 1, 4);
            courseFault("ice +1;", 1, 4);
            courseFault("ice 1.0;", 1, 5);
            planFault("lead 0099;", 1, 5);
            sentenceFault("push<0001", 1, 5);
        });
        edge(0, "; < = > ( ) .", () -> {
            sentenceIs("(push<5)and(push=5)and(push>5)", 6);
            courseIs("ice 1;", 1);
            for (int sign = 33; sign < 127; sign++) {
                boolean row = sign >= 'a' && sign <= 'z' || sign >= '0' && sign <= '9';
                if (sign != '<' && sign != '=' && sign != '>' && !row) {
                    sentenceFault("push " + (char) sign + " 5", 1, 5);
                }
                if (sign != ';' && !row) {
                    courseFault("ice 1" + (char) sign, 1, 5);
                }
            }
        });
        edge(0, "(A WORD, NUMBER goes on as long as small letters and digits do; what is not as told is no TOKEN.)", () -> {
            courseFault("yards5;", 1, 0);
            courseFault("man a1 1 1 50;", 1, 4);
            courseFault("man 1a 1 1 50;", 1, 4);
            courseFault("ice 1a;", 1, 4);
            courseFault("ice 10a;", 1, 4);
            courseFault("yards 5;ice 1ice 1;", 1, 12);
            sentenceFault("push<5and crew", 1, 5);
            sentenceFault("crewor gets", 1, 0);
            courseFault("man " + "a".repeat(800) + " 1 1 50;", 1, 4);
            courseFault("ice " + "0".repeat(800) + "1;", 1, 4);
            // 27 to the 13th is above what a long holds: rows that wrap to a WORD are no WORD.
            courseFault("a".repeat(14) + "yards 5;", 1, 0);
        });
    }

    private static void courseSize() {
        edge(0, "A COURSE is a text of at most 900 bytes: { LINE ; }.", () -> {
            courseIs(" ".repeat(894) + "ice 1;", 1);
            courseIs("ice 1;" + "\n".repeat(894), 1);
            courseFault(" ".repeat(895) + "ice 1;", 1, 900);
            courseFault("ice 1;" + " ".repeat(895), 1, 900);
            courseFault(" ".repeat(940), 1, 900);
            courseIs(" ".repeat(900), 0);
            courseIs("", 0);
        });
        edge(0, "A COURSE is a text of at most 900 bytes: { LINE ; }.", () -> {
            courseFault(";", 1, 0);
            courseFault("ice 1;;", 1, 6);
            courseFault("ice 1", 1, 5);
            courseFault("ice 1 warm 1;", 1, 6);
            courseFault("ice 1 1;", 1, 6);
            courseFault("1;", 1, 0);
            courseFault("(ice 1);", 1, 0);
        });
    }

    private static void setting(String word, int what, int least, int most) {
        int place = word.length() + 1;
        for (int n : new int[] {least, least + 1, most - 1, most}) {
            FourSledge x = new FourSledge();
            due(word + " " + n, Texts.course(x, word + " " + n + ";"), 1);
            due(word + " " + n + " is told", x.count(what), n);
        }
        courseFault(word + " " + (most + 1) + ";", 2, place);
        courseFault(word + " 999;", 2, place);
        if (least > 0) {
            courseFault(word + " " + (least - 1) + ";", 2, place);
            courseFault(word + " 0;", 2, place);
        }
        courseFault(word + ";", 1, place - 1);
        courseFault(word + " a;", 1, place);
    }

    private static void settings() {
        edge(0, "LINE: 'yards' N (5 to 40)", () -> setting("yards", 0, 5, 40));
        edge(0, "'sledge' N (100 to 300)", () -> setting("sledge", 1, 100, 300));
        edge(0, "'most' N (300 to 900)", () -> setting("most", 2, 300, 900));
        edge(0, "'ice' N (0 to 9)", () -> setting("ice", 3, 0, 9));
        edge(0, "'warm' N (0 to 20)", () -> setting("warm", 4, 0, 20));
        edge(0, "these five once each;", () -> {
            courseIs("warm 1;ice 1;most 300;sledge 100;yards 5;", 5);
            courseFault("yards 5;yards 5;", 3, 8);
            courseFault("sledge 100;ice 1;sledge 100;", 3, 17);
            courseFault("most 300;most 301;", 3, 9);
            courseFault("ice 0;ice 0;", 3, 6);
            courseFault("warm 0;warm 0;", 3, 7);
            courseFault("ice 2;ice 2;", 3, 6);
        });
        edge(0, "without: 40, 210, 630, 2, 5", () -> {
            int[] usual = {40, 210, 630, 2, 5};
            String[] lines = {"yards 6;", "sledge 101;", "most 301;", "ice 8;", "warm 9;"};
            int[] told = {6, 101, 301, 8, 9};
            for (int line = 0; line < 5; line++) {
                FourSledge x = new FourSledge();
                Texts.course(x, "yards 7;sledge 107;most 307;ice 7;warm 7;");
                Texts.course(x, lines[line]);
                for (int what = 0; what < 5; what++) {
                    due(lines[line] + " count(" + what + ")", x.count(what), what == line ? told[what] : usual[what]);
                }
            }
        });
    }

    private static void menBendsRunners() {
        edge(0, "'man' NAME PUSH FEET WEIGHT (1 to 9 both; 50 to 150)", () -> {
            FourSledge x = new FourSledge();
            due("MEN", Texts.course(x, "man a 1 9 50;man b 9 1 150;"), 2);
            int[] told = {x.man(0, 0), x.man(0, 1), x.man(0, 2), x.man(1, 0), x.man(1, 1), x.man(1, 2)};
            due("as told", java.util.Arrays.equals(told, new int[] {1, 9, 50, 9, 1, 150}), true);
            courseFault("man a 0 1 50;", 2, 6);
            courseFault("man a 10 1 50;", 2, 6);
            courseFault("man a 1 0 50;", 2, 8);
            courseFault("man a 1 10 50;", 2, 8);
            courseFault("man a 1 1 49;", 2, 10);
            courseFault("man a 1 1 151;", 2, 10);
            courseFault("man a 1 1;", 1, 9);
            courseFault("man a 1 1 50 1;", 1, 13);
            courseFault("man;", 1, 3);
            courseFault("man 1 1 50;", 1, 4);
        });
        edge(0, "'bend' LENGTH DROP LINE OVER (1 to 9; 0 to 9; 0 to 9; 1 to 99)", () -> {
            FourSledge x = new FourSledge();
            due("BENDS", Texts.course(x, "bend 1 0 0 1;bend 9 9 9 99;"), 2);
            int[] want = {1, 0, 0, 1, 9, 9, 9, 99};
            for (int i = 0; i < 8; i++) {
                due("as told", x.bend(i / 4, i % 4), want[i]);
            }
            courseFault("bend 0 0 0 1;", 2, 5);
            courseFault("bend 10 0 0 1;", 2, 5);
            courseFault("bend 1 10 0 1;", 2, 7);
            courseFault("bend 1 0 10 1;", 2, 9);
            courseFault("bend 1 0 0 0;", 2, 11);
            courseFault("bend 1 0 0 100;", 2, 11);
            courseFault("bend 1 0 0;", 1, 10);
            courseFault("bend 1 0 0 1 1;", 1, 13);
            courseFault("bend a 1 0 0 1;", 1, 5);
        });
        edge(0, "'runner' NAME BEST BAD (0 to 20; 0 to 9).", () -> {
            FourSledge x = new FourSledge();
            due("RUNNERS", Texts.course(x, "runner a 0 9;runner b 20 0;"), 2);
            due("BEST", x.runner(0, 0), 0);
            due("BAD", x.runner(0, 1), 9);
            due("BEST", x.runner(1, 0), 20);
            due("BAD", x.runner(1, 1), 0);
            courseFault("runner a 21 0;", 2, 9);
            courseFault("runner a 0 10;", 2, 11);
            courseFault("runner a 0;", 1, 10);
            courseFault("runner a 0 0 0;", 1, 13);
            courseFault("runner 0 0;", 1, 7);
        });
    }

    private static void names() {
        edge(0, "NAME: a WORD, none of those told here, in a PLAN or a SENTENCE;", () -> {
            for (String word : WORDS) {
                courseFault("man " + word + " 1 1 50;", 1, 4);
                courseFault("runner " + word + " 1 1;", 1, 7);
                String shorter = word.substring(0, word.length() - 1);
                courseIs("man " + (shorter.isEmpty() || shorter.equals("o") ? "q" : shorter) + " 1 1 50;", 1);
                if (word.length() < 7) {
                    courseIs("man " + word + "x 1 1 50;runner x" + word + " 1 1;", 2);
                }
            }
            courseIs("man name 1 1 50;man line 1 1 50;man drop 1 1 50;man over 1 1 50;man best 1 1 50;man bad 1 1 50;", 6);
        });
        edge(0, "NAME: a WORD, none of those told here, in a PLAN or a SENTENCE; told once.", () -> {
            courseFault("man a 1 1 50;man a 1 1 50;", 3, 17);
            courseFault("runner a 1 1;runner a 1 1;", 3, 20);
            courseFault("man a 1 1 50;runner a 1 1;", 3, 20);
            courseFault("runner a 1 1;man a 1 1 50;", 3, 17);
            courseIs("man a 1 1 50;man aa 1 1 50;man ab 1 1 50;man ba 1 1 50;runner b 1 1;", 5);
            courseFault(many("man", 12, " 1 1 50;") + "runner l 1 1;", 3, 12 * 13 + 7);
        });
        edge(0, "12 MEN, 12 BENDS, 6 RUNNERS at most, numbered from 0 each.", () -> {
            String full = many("man", 12, " 1 1 50;") + "bend 1 0 0 1;".repeat(12) + many("runner", 6, "r 0 0;");
            FourSledge x = new FourSledge();
            due("a full COURSE", Texts.course(x, full), 30);
            due("MEN", x.count(5), 12);
            due("BENDS", x.count(6), 12);
            due("RUNNERS", x.count(7), 6);
            due("MAN 11", x.man(11, 2), 50);
            due("no MAN 12", throwsNone(x, 12, 0), true);
            due("BEND 11", x.bend(11, 0), 1);
            due("BEND 12", x.bend(12, 0), -1);
            due("RUNNER 5", x.runner(5, 0), 0);
            due("RUNNER 6", x.runner(6, 0), -1);
            int end = full.length();
            courseFault(full + "man z 1 1 50;", 4, end);
            courseFault(full + "bend 1 0 0 1;", 4, end);
            courseFault(full + "runner z 1 1;", 4, end);
        });
        edge(0, "12 MEN, 12 BENDS, 6 RUNNERS at most, numbered from 0 each.", () -> {
            FourSledge x = new FourSledge();
            Texts.course(x, "bend 4 0 0 1;runner s 7 0;man z 1 1 90;runner r 8 0;man a 1 1 80;bend 5 0 0 1;");
            due("MAN 0", x.man(0, 2), 90);
            due("MAN 1", x.man(1, 2), 80);
            due("BEND 0", x.bend(0, 0), 4);
            due("BEND 1", x.bend(1, 0), 5);
            due("RUNNER 0", x.runner(0, 0), 7);
            due("RUNNER 1", x.runner(1, 0), 8);
        });
    }

    private static void planSize() {
        edge(0, "A PLAN is a text of at most 400 bytes: { LINE ; }:", () -> {
            planIs("", 0);
            planIs(" ".repeat(400), 0);
            planIs(" ".repeat(393) + "lead 1;", 1);
            planIs("lead 1;" + "\n".repeat(393), 1);
            planFault(" ".repeat(394) + "lead 1;", 1, 400);
            planFault("lead 1;" + " ".repeat(394), 1, 400);
            planFault(" ".repeat(940), 1, 400);
        });
        edge(0, "A PLAN is a text of at most 400 bytes: { LINE ; }:", () -> {
            planFault(";", 1, 0);
            planFault("lead 1;;", 1, 7);
            planFault("lead 1", 1, 6);
            planFault("lead 1 start 1;", 1, 7);
            for (String word : WORDS) {
                boolean begins = "crew jump lead high on start".contains(word);
                planFault(word + ";", 1, begins ? word.length() : 0);
            }
            planFault("a;", 1, 0);
            planFault("1;", 1, 0);
        });
    }

    private static void crews() {
        String crew = "'crew' MAN MAN MAN MAN (unlike; once, ahead of all jumps)";
        edge(0, crew, () -> {
            planFault("crew a a c d;", 3, 7);
            planFault("crew a b a d;", 3, 9);
            planFault("crew a b c a;", 3, 11);
            planFault("crew a b c c;", 3, 11);
            planFault("crew a b c;", 1, 10);
            planFault("crew a b c d a;", 1, 13);
            planFault("crew;", 1, 4);
            planFault("crew", 1, 4);
            planIs("crew d c b a;", 1);
        });
        edge(0, crew, () -> {
            planFault(CREW + CREW, 3, 13);
            planFault(CREW + "jump a 1;crew b a c d;", 3, 22);
        });
        edge(0, crew, () -> {
            planFault("jump a 1;" + CREW, 3, 5);
            planFault("jump a 1;", 3, 5);
            planIs("lead 1;start 3;" + CREW + "on v;jump a 1;", 5);
        });
        edge(0, crew, () -> {
            FourSledge x = told("yards 5;" + many("man", 12, " 1 1 50;"), "crew l a k f;");
            int[] places = {1, -1, -1, -1, -1, 3, -1, -1, -1, -1, 2, 0};
            for (int m = 0; m < 12; m++) {
                due("the place of MAN " + m, x.man(m, 3), places[m]);
            }
        });
    }

    private static void jumps() {
        String jump = "'jump' MAN YARD (of the crew; below 'yards'; each once; the last YARD without)";
        String five = COURSE + "man e 1 1 50;";
        edge(0, jump, () -> {
            FourSledge x = told(five, "");
            due("a MAN not of the crew", Texts.plan(x, CREW + "jump e 1;"), -1 - 18);
            due("a MAN not of the crew: kind", x.fault(), 3);
            planFault(CREW + "jump v 1;", 3, 18);
            planFault(CREW + "jump q 1;", 3, 18);
            planFault(CREW + "jump 0 1;", 1, 18);
            planFault(CREW + "jump crew 1;", 1, 18);
        });
        edge(0, jump, () -> {
            planIs(CREW + "jump a 0;", 2);
            planIs(CREW + "jump a 4;", 2);
            planFault(CREW + "jump a 5;", 2, 20);
            planFault(CREW + "jump a 999;", 2, 20);
            planFault(CREW + "jump a;", 1, 19);
            FourSledge x = told(MEN, CREW + "jump a 39;jump b 0;");
            due("the last of 40", x.man(0, 4), 39);
            due("the first of 40", x.man(1, 4), 0);
            due("none such of 40", Texts.plan(x, CREW + "jump a 40;"), -1 - 20);
            due("none such of 40: kind", x.fault(), 2);
        });
        edge(0, jump, () -> {
            planIs(CREW + "jump a 1;jump b 1;jump c 1;jump d 1;", 5);
            planFault(CREW + "jump a 1;jump a 2;", 3, 27);
            planFault(CREW + "jump a 1;jump b 1;jump a 1;", 3, 36);
            planFault(CREW + "jump d 4;jump d 4;", 3, 27);
        });
        edge(0, jump, () -> {
            FourSledge x = told(COURSE, CREW + "jump b 0;");
            due("a", x.man(0, 4), 4);
            due("b", x.man(1, 4), 0);
            due("c", x.man(2, 4), 4);
            due("d", x.man(3, 4), 4);
            due("of 40", told(MEN, CREW).man(0, 4), 39);
        });
    }

    private static void planNumbers() {
        edge(0, "'lead' N (0 to 99; 0 without)", () -> {
            due("least", told(COURSE, "lead 0;").count(8), 0);
            due("most", told(COURSE, "lead 99;").count(8), 99);
            planFault("lead 100;", 2, 5);
            planFault("lead;", 1, 4);
            planFault("lead a;", 1, 5);
            FourSledge x = told(COURSE, "lead 9;");
            Texts.plan(x, "start 2;");
            due("without", x.count(8), 0);
        });
        String high = "'high' BEND HEIGHT (a NUMBER below how many there are; 0 to 9; each BEND once; its LINE without)";
        edge(0, high, () -> {
            planIs("high 0 1;high 1 1;", 2);
            planFault("high 2 1;", 2, 5);
            planFault("high 999 1;", 2, 5);
            planFault("high a 1;", 1, 5);
            planFault("high;", 1, 4);
            FourSledge none = told("yards 5;", "");
            due("of no BENDS", Texts.plan(none, "high 0 1;"), -1 - 5);
            due("of no BENDS: kind", none.fault(), 2);
            FourSledge full = told("bend 1 0 0 1;".repeat(12), "high 11 9;");
            due("the twelfth", full.bend(11, 4), 9);
            due("a thirteenth", Texts.plan(full, "high 12 9;"), -1 - 5);
            due("a thirteenth: kind", full.fault(), 2);
        });
        edge(0, high, () -> {
            due("least", told(COURSE, "high 1 0;").bend(1, 4), 0);
            due("most", told(COURSE, "high 1 9;").bend(1, 4), 9);
            planFault("high 1 10;", 2, 7);
            planFault("high 1;", 1, 6);
            planFault("high 1 1 1;", 1, 9);
        });
        edge(0, high, () -> {
            planFault("high 1 1;high 1 1;", 3, 14);
            planFault("high 0 1;high 1 1;high 0 2;", 3, 23);
            planFault("high 1 1;high 01 1;", 3, 14);
            FourSledge full = told("bend 1 0 0 1;".repeat(12), "");
            due("the twelfth again", Texts.plan(full, "high 11 1;high 11 2;"), -1 - 15);
            due("the twelfth again: kind", full.fault(), 3);
        });
        edge(0, high, () -> {
            FourSledge x = told(COURSE, "high 1 9;");
            due("told", x.bend(1, 4), 9);
            due("without", x.bend(0, 4), 4);
            Texts.plan(x, "high 0 9;");
            due("without then", x.bend(1, 4), 2);
        });
        edge(0, "'on' RUNNER (the first without)", () -> {
            due("told", told(COURSE, "on r;").count(9), 1);
            due("without", told(COURSE, "").count(9), 0);
            due("the sixth", told(many("runner", 6, " 0 0;"), "on f;").count(9), 5);
            due("no RUNNERS", told(MEN, CREW).count(9), -1);
            planFault("on a;", 3, 3);
            planFault("on q;", 3, 3);
            planFault("on 0;", 1, 3);
            planFault("on on;", 1, 3);
            planFault("on;", 1, 2);
            planFault("on v r;", 1, 5);
        });
        edge(0, "'start' N (1 to 60: the number; 1 without)", () -> {
            due("least", told(COURSE, "start 1;").count(10), 1);
            due("most", told(COURSE, "start 60;").count(10), 60);
            due("without", told(COURSE, "").count(10), 1);
            planFault("start 0;", 2, 6);
            planFault("start 61;", 2, 6);
            planFault("start;", 1, 5);
        });
        edge(0, "'lead', 'on', 'start' once each.", () -> {
            planFault("lead 0;lead 0;", 3, 7);
            planFault("on v;on v;", 3, 5);
            planFault("start 1;start 1;", 3, 8);
            planFault("lead 1;start 1;on v;lead 2;", 3, 20);
        });
    }

    private static void sentenceSize() {
        edge(0, "A SENTENCE is a text of at most 200 bytes:", () -> {
            sentenceIs(" ".repeat(196) + "crew", 1);
            sentenceIs("crew" + " ".repeat(196), 1);
            sentenceFault(" ".repeat(197) + "crew", 1, 200);
            sentenceFault("crew" + " ".repeat(197), 1, 200);
            sentenceFault(" ".repeat(940), 1, 200);
            sentenceFault("", 1, 0);
            sentenceFault(" ".repeat(200), 1, 200);
            sentenceFault(" \n", 1, 2);
        });
        edge(0, "COND: ALL { 'or' ALL }. ALL: ONE { 'and' ONE }.", () -> {
            sentenceIs("crew", 1);
            sentenceIs("crew or gets and crew or gets", 4);
            sentenceFault("crew or", 1, 7);
            sentenceFault("or crew", 1, 0);
            sentenceFault("crew and", 1, 8);
            sentenceFault("and crew", 1, 0);
            sentenceFault("crew or or gets", 1, 8);
            sentenceFault("crew and or gets", 1, 9);
            sentenceFault("crew gets", 1, 5);
            sentenceFault("crew;", 1, 4);
        });
        edge(0, "COND: ALL { 'or' ALL }. ALL: ONE { 'and' ONE }.", () -> {
            FourSledge x = down();
            due("'and' ahead of 'or'", saidOf(x, "number=0 or number=1 and number=2"), 1);
            due("'and' ahead of 'or'", saidOf(x, "number=1 and number=2 or number=0"), 1);
            due("brackets", saidOf(x, "(number=0 or number=1)and number=1"), 2);
            due("many 'or'", saidOf(x, "number=0 or number=1 or number=3"), 11);
            due("many 'and'", saidOf(x, "number>0 and number<3 and number>1"), 4);
        });
    }

    private static void sentenceParts() {
        edge(0, "ONE: 'not' ONE | ( COND )", () -> {
            sentenceIs("not crew", 2);
            sentenceIs("not not crew", 3);
            sentenceIs("not(crew or gets)", 4);
            sentenceIs("((crew))", 3);
            sentenceFault("not", 1, 3);
            sentenceFault("not or", 1, 4);
            sentenceFault("()", 1, 1);
            sentenceFault("(crew", 1, 5);
            sentenceFault("(crew or", 1, 8);
            sentenceFault("crew)", 1, 4);
            sentenceFault("(crew))", 1, 6);
            sentenceFault("(crew gets)", 1, 6);
            sentenceFault(")", 1, 0);
            due("'not' takes one ONE", saidOf(down(), "not number=0 and number<2"), 2);
        });
        edge(0, "( 'push' | 'feet' | 'weight' | 'number' ) SIGN NUMBER. SIGN: < = >.", () -> {
            for (String what : new String[] {"push", "feet", "weight", "number"}) {
                int n = what.length();
                sentenceIs(what + "<0", 1);
                sentenceIs(what + "=000", 1);
                sentenceIs(what + ">999", 1);
                sentenceFault(what + "<1000", 1, n + 1);
                sentenceFault(what + "<<1", 1, n + 1);
                sentenceFault(what + "<=1", 1, n + 1);
                sentenceFault(what + " 1", 1, n + 1);
                sentenceFault(what + "<", 1, n + 1);
                sentenceFault(what, 1, n);
                sentenceFault(what + "<a", 1, n + 1);
                sentenceFault("1<" + what, 1, 0);
            }
        });
        edge(0, "( 'push' | 'feet' | 'weight' | 'number' ) SIGN NUMBER. SIGN: < = >.", () -> {
            FourSledge x = down();
            due("PUSH below", saidOf(x, "push<7"), 8);
            due("PUSH alike", saidOf(x, "push=7"), 4);
            due("PUSH above", saidOf(x, "push>7"), 3);
            due("FEET below", saidOf(x, "feet<9"), 4);
            due("FEET alike", saidOf(x, "feet=9"), 11);
            due("FEET above", saidOf(x, "feet>9"), 0);
            due("WEIGHT below", saidOf(x, "weight<100"), 6);
            due("WEIGHT alike", saidOf(x, "weight=100"), 1);
            due("WEIGHT above", saidOf(x, "weight>100"), 8);
            due("number below", saidOf(x, "number<1"), 1);
            due("number alike", saidOf(x, "number=001"), 2);
            due("number above", saidOf(x, "number>1"), 12);
            due("number below 0", saidOf(x, "number<0"), 0);
            due("number above 999", saidOf(x, "number>999"), 0);
        });
        edge(0, "20 ONES,", () -> {
            sentenceIs("crew" + " or crew".repeat(19), 20);
            sentenceFault("crew" + " or crew".repeat(20), 4, 4 + 19 * 8 + 4);
            sentenceIs("(crew)or(crew)or(crew)or(crew)or(crew)or(crew)or(crew)or(crew)or(crew)or(crew)", 20);
            sentenceIs("not crew or not crew or not crew or not crew or not crew or not crew or not crew or not crew"
                + " or not crew or not crew", 20);
            due("the twentieth counts", saidOf(down(), "crew" + " and crew".repeat(18) + " and gets"), 11);
            due("the twentieth counts", saidOf(down(), "not crew" + " or push<1".repeat(17) + " or gets"), 11);
        });
        edge(0, "8 within one another.", () -> {
            sentenceIs("(((((((crew)))))))", 8);
            sentenceFault("((((((((crew))))))))", 4, 8);
            sentenceIs("not not not not not not not crew", 8);
            sentenceFault("not not not not not not not not crew", 4, 32);
            sentenceIs("not(not(not(gets or push<1 and crew)))", 9);
            sentenceIs("(((((((crew)))))))or(((((((crew)))))))", 16);
            sentenceFault("not(not(not(not(crew))))", 4, 16);
        });
        edge(0, "It is said of MEN.", () -> {
            FourSledge x = told("yards 5;runner v 1 1;bend 1 1 1 9;", "");
            due("of nobody", saidOf(x, "number<999"), 0);
            due("how many", x.said(-1), 0);
            FourSledge full = told("yards 5;" + many("man", 12, " 1 1 50;"), "");
            due("of all twelve", saidOf(full, "number<999"), 4095);
        });
    }

    private static void sentenceTruths() {
        edge(0, "'crew' (of it)", () -> {
            due("of it", saidOf(told(COURSE + "man e 1 1 50;", PLAN), "crew"), 15);
            due("not of it", saidOf(told(COURSE + "man e 1 1 50;", PLAN), "not crew"), 16);
            due("no crew", saidOf(nobody(), "crew"), 0);
        });
        edge(0, "'gets' (gets in by the PLAN)", () -> {
            due("c is LATE", saidOf(down(), "gets"), 11);
            due("c is LATE by his place, too", saidOf(told(COURSE, PLAN.replace("crew a b c d", "crew c a b d")), "gets"), 11);
            due("no crew", saidOf(nobody(), "gets"), 0);
            due("above 'most' they get in all the same", saidOf(heavy(), "gets"), 11);
            due("OVER, too", saidOf(over(), "gets"), 11);
        });
        edge(0, "'ahead' MAN (of the crew, both: it jumps in an earlier YARD)", () -> {
            FourSledge x = told(COURSE + "man e 1 1 50;", PLAN);
            due("of c", saidOf(x, "ahead c"), 3);
            due("of a: none", saidOf(x, "ahead a"), 0);
            due("of d", saidOf(x, "ahead d"), 7);
            due("of e, who is not of the crew", saidOf(x, "ahead e"), 0);
            x.jump(0, 2);
            due("the same YARD is no earlier one", saidOf(x, "ahead b"), 0);
            due("no crew", saidOf(nobody(), "ahead d"), 0);
            sentenceFault("ahead", 1, 5);
            sentenceFault("ahead 1", 1, 6);
            sentenceFault("ahead not", 1, 6);
        });
    }

    private static void faultsOfTokens() {
        edge(0, "FAULTS, the first along the text,", () -> {
            courseFault("ice 10;yards 4;!", 2, 4);
            courseFault("ice 1;ice 10;", 3, 6);
            courseFault("man a 0 0 0;", 2, 6);
            courseFault("man a 1 1 50;man a 0 1 50;", 3, 17);
            planFault("crew q a a d;", 3, 5);
            planFault(CREW + "jump q 9;", 3, 18);
            planFault("high 9 99;", 2, 5);
            sentenceFault("ahead q or !", 3, 6);
        });
        edge(0, "of one TOKEN the least:", () -> {
            courseFault("yards 5;yards5;", 1, 8);
            sentenceFault("crew" + " or crew".repeat(19) + " or a", 1, 4 + 19 * 8 + 4);
            sentenceFault("crew" + " or crew".repeat(19) + " or 1", 1, 4 + 19 * 8 + 4);
            sentenceFault("((((((((a", 1, 8);
            sentenceFault("((((((((", 1, 8);
            courseFault(many("man", 12, " 1 1 50;") + "mann a", 1, 12 * 13);
        });
        edge(0, "1 no TOKEN, or one that can't come (at it;", () -> {
            courseFault("  !", 1, 2);
            courseFault("ice !;", 1, 4);
            courseFault("ice ice;", 1, 4);
            courseFault("ice ;", 1, 4);
            courseFault("gets;", 1, 0);
            planFault("lead lead;", 1, 5);
            planFault("crew a b yards d;", 1, 9);
            planFault("crew a ! c d;", 1, 7);
            planFault(CREW + "jump ! 1;", 1, 18);
            planFault("on !;", 1, 3);
            sentenceFault("ahead !", 1, 6);
            sentenceFault("crew 1", 1, 5);
            sentenceFault("yards", 1, 0);
        });
        edge(0, "the end: how many bytes there are;", () -> {
            courseFault("ice", 1, 3);
            courseFault("ice  \n", 1, 6);
            courseFault("man a 1 1 50", 1, 12);
            planFault("crew a b ", 1, 9);
            sentenceFault("not ", 1, 4);
            sentenceFault("(crew\n\n", 1, 7);
            courseFault(" ".repeat(897) + "ice", 1, 900);
            planFault(" ".repeat(396) + "lead", 1, 400);
            sentenceFault(" ".repeat(197) + "not", 1, 200);
        });
        edge(0, "the most bytes told, if there are more and no FAULT is ahead:", () -> {
            courseFault("ice 1;" + " ".repeat(894) + "!", 1, 900);
            courseFault("ice 1;" + " ".repeat(893) + "!", 1, 899);
            courseFault("ice 10;" + " ".repeat(900), 2, 4);
            courseFault("ice 1" + " ".repeat(896), 1, 900);
            courseFault("ice 1" + " ".repeat(920) + ";", 1, 900);
            planFault("lead 1;" + " ".repeat(393) + "!", 1, 400);
            planFault("lead 1;" + " ".repeat(392) + "! ", 1, 399);
            planFault("lead 100;" + " ".repeat(400), 2, 5);
            sentenceFault("crew" + " ".repeat(196) + "!", 1, 200);
            sentenceFault("crew" + " ".repeat(195) + "! ", 1, 199);
            sentenceFault("ahead q" + " ".repeat(200), 3, 6);
        });
        edge(0, "TOKENS that begin ahead of it are read whole);", () -> {
            courseFault(" ".repeat(895) + "ice 10;", 2, 899);
            courseFault(" ".repeat(895) + "ice 1000;", 1, 899);
            courseFault(" ".repeat(895) + "ice 1;", 1, 900);
            courseFault(" ".repeat(898) + "ice 1;", 1, 900);
            courseFault(" ".repeat(899) + "ices 1;", 1, 899);
            courseFault("ice 1;" + " ".repeat(893) + "ice 1;", 3, 899);
            courseFault("ice 1;" + " ".repeat(894) + "ice 1;", 1, 900);
            planFault(" ".repeat(394) + "lead 100;", 2, 399);
            planFault(" ".repeat(395) + "lead 100;", 1, 400);
            planFault(" ".repeat(396) + "on qq;", 3, 399);
            planFault(" ".repeat(396) + "on q!;", 3, 399);
            sentenceFault(" ".repeat(193) + "ahead qq", 3, 199);
            sentenceFault(" ".repeat(199) + "crews", 1, 199);
            sentenceFault(" ".repeat(199) + "crew", 1, 200);
        });
    }

    private static void faultsOfNumbersAndNames() {
        edge(0, "2 a NUMBER that is not as told (at it);", () -> {
            courseFault("  yards   41  ;", 2, 10);
            courseFault("man a 9 9 151;", 2, 10);
            courseFault("runner r 20 10;", 2, 12);
            planFault(CREW + "jump b  5;", 2, 21);
            planFault("high 1  10;", 2, 8);
            planFault("start 999;", 2, 6);
        });
        edge(0, "3 a NAME told twice, not told, or of another sort, a MAN told again, not of the crew,", () -> {
            courseFault("man a 1 1 50;man  a 1 1 50;", 3, 18);
            courseFault("runner a 1 1;man a 1 1 50;", 3, 17);
            planFault("crew a b q d;", 3, 9);
            planFault("crew a b v d;", 3, 9);
            planFault("on a;", 3, 3);
            planFault("crew a b b d;", 3, 9);
            planFault(CREW + "jump a 1;jump a 1;", 3, 27);
            sentenceFault("ahead q", 3, 6);
            sentenceFault("ahead v", 3, 6);
            FourSledge x = told(COURSE + "man e 1 1 50;", "");
            due("not of the crew", Texts.plan(x, CREW + "jump e 1;"), -1 - 18);
            due("not of the crew: kind", x.fault(), 3);
        });
        edge(0, "what is told once told again (at it, at the WORD);", () -> {
            courseFault("warm 1; warm 2;", 3, 8);
            planFault(CREW + " crew d c b a;", 3, 14);
            planFault("lead 1; lead 100;", 3, 8);
            planFault("on v; on q;", 3, 6);
            planFault("start 1; start 0;", 3, 9);
            planFault("high 0 1;high 0 99;", 3, 14);
        });
    }

    private static void faultsOfMany() {
        edge(0, "4 one more MAN, BEND, RUNNER than there may be (at the LINE's first WORD),", () -> {
            courseFault(many("man", 12, " 1 1 50;") + " man", 4, 12 * 13 + 1);
            courseFault(many("man", 12, " 1 1 50;") + "man a 1 1 50;", 4, 12 * 13);
            courseFault("bend 1 0 0 1;".repeat(12) + "bend 0", 4, 12 * 13);
            courseFault(many("runner", 6, " 1 1;") + "runner 0", 4, 6 * 13);
            courseIs(many("man", 12, " 1 1 50;") + "bend 1 0 0 1;runner z 1 1;", 14);
            courseIs("bend 1 0 0 1;".repeat(12) + "man a 1 1 50;", 13);
        });
        edge(0, "a 21st ONE, a ninth within (at its first TOKEN).", () -> {
            String twenty = "crew" + " or crew".repeat(19);
            sentenceFault(twenty + " or (crew)", 4, twenty.length() + 4);
            sentenceFault(twenty + " or not crew", 4, twenty.length() + 4);
            sentenceFault(twenty + " or push", 4, twenty.length() + 4);
            sentenceFault(twenty + " or ahead", 4, twenty.length() + 4);
            sentenceFault("not not crew" + " or crew".repeat(18), 4, 12 + 17 * 8 + 4);
            sentenceFault("((((((((push", 4, 8);
            sentenceFault("(((((((( not", 4, 9);
            sentenceFault("(((((((((", 4, 8);
            sentenceFault("not (not (not (not not not", 4, 23);
        });
    }
}
