/** The bounds of the post and of days: promises 11 to 14. */
final class BoundsOfPost {
    private static final String P11 = Said.promise(11), P12 = Said.promise(12), P13 = Said.promise(13), P14 = Said.promise(14);

    private BoundsOfPost() {
    }

    static void hold() {
        sent();
        letterByLetter();
        theDay();
        carriedOrKept();
        toneBounds();
        houseBelow();
        oneMore();
        days();
        behindTheLastDay();
        comesTerm();
        knows();
        send();
        day();
        run();
        runWrong();
        comes();
    }

    private static void sent() {
        Said.says(Said.TERMS, "SENT by one to another one: a LETTER more, in the TONE one WRITES, READ by who SENT it, AT the HOUSE "
            + "SLIP above where the other one LIVES (round).", () -> {
            for (int house = 0; house < 8; house++) {
                Run run = Run.of("person(0, 0, " + (house == 3 ? 4 : 3) + ")", "person(5, 7, " + house + ")");
                for (int slip = 0; slip < 8; slip++) {
                    run.does("set(1, 0, " + slip + ")").due("send(0, 1)", slip).dueLetter(slip, (house + slip) % 8, 40, 1);
                }
            }
            Run run = Run.of("person(0, 0, 0)", "person(1, 1, 1)", "person(2, 2, 2)", "person(3, 3, 3)", "person(5, 9, 7)");
            run.due("send(4, 0)", 0).dueLetter(0, 1, 90, 16).due("send(0, 4)", 1).dueLetter(1, 0, 40, 1).due("count(1)", 2);
            run.does("set(2, 4, 0)").due("send(4, 3)", 2).dueLetter(2, 4, 0, 16).due("told(2, 7)", 4).due("told(2, 8)", 3);
        });
    }

    private static void letterByLetter() {
        Said.says(Said.TERMS, "A DAY: LETTER by LETTER, by numbers, of those that aren't HOME:", () -> {
            // None; then those that are home stay as they are, whoever would read them.
            Run run = new Run().due("day()", 0).does("person(0, 0, 7)", "person(0, 0, 4)", "person(0, 0, 6)").due("day()", 0);
            run.does("set(1, 0, 0)", "send(0, 1)", "send(1, 0)", "set(1, 0, 2)", "send(2, 0)").due("day()", 3);
            run.dueLetter(0, -1, 40, 3).dueLetter(1, -1, 40, 3).dueLetter(2, 0, 40, 4);
            run.does("set(3, 0, 7)").due("day()", 0).dueLetter(0, -1, 7, 3).dueLetter(1, -1, 40, 3).dueLetter(2, 7, 40, 4);
            run.due("day()", 4).dueLetter(2, -1, 40, 5).due("day()", 0).dueLetter(2, -1, 40, 5);
            // All eight in one day.
            Run eight = Run.of("person(4, 9, 1)", "person(4, 9, 2)", "set(1, 0, 0)");
            for (int letter = 0; letter < 8; letter++) {
                eight.does(letter % 2 == 0 ? "send(0, 1)" : "send(1, 0)");
            }
            eight.due("day()", 255).due("count(2)", 8).due("day()", 0).due("count(2)", 8);
        });
    }

    private static void theDay() {
        Said.says(Said.TERMS, "does somebody LIVE in the HOUSE it is AT, that one has READ it; is that one whom it is TO, it is HOME;",
            () -> {
            // 0 reads what it carries, what it keeps, and what is its own once more; who keeps all still takes what is to that one.
            Run run = Run.of("person(4, 9, 3)", "person(0, 0, 1)", "person(0, 0, 6)", "set(1, 0, 2)", "send(2, 1)", "send(0, 1)");
            run.does("set(1, 0, 0)", "send(1, 0)").dueLetter(0, 3, 40, 4).dueLetter(1, 3, 59, 1).dueLetter(2, 3, 40, 2);
            run.due("day()", 4).dueLetter(0, 3, 40, 5).dueLetter(1, 3, 59, 1).dueLetter(2, -1, 40, 3);
            run.due("day()", 0).dueLetter(0, 3, 40, 5).dueLetter(1, 3, 59, 1);
            // The tone of what comes home stays, whatever one would soften.
            Run soft = Run.of("person(0, 0, 0)", "person(1, 0, 7)", "set(1, 0, 0)", "send(0, 1)").due("day()", 1)
                .dueLetter(0, -1, 40, 3);
            soft.due("asks(1, 0, 1)", 10);
        });
    }

    private static void carriedOrKept() {
        Said.says(Said.TERMS, "else, if that one CARRIES it (told as all is then), TONE is less by what that one SOFTENS (told with "
            + "that; 0 .. 99, else the bound), and it is AT the HOUSE below;", () -> {
            // As all is then: that one has read it, the tone is not less yet, the day is still the same.
            Run run = Run.of("person(0, 0, 3)", "person(0, 0, 0)", "person(0, 0, 6)", "set(1, 0, 3)");
            run.rule("carries (read=2 and tone=40)and day=5;softens tone+read*10+day;writes 40;").does("send(2, 1)", "set(0, 0, 4)");
            run.due("asks(0, 0, 0)", 0).due("day()", 0).dueLetter(0, 3, 40, 5).due("asks(0, 0, 0)", 1).due("asks(0, 0, 1)", 65);
            run.due("day()", 0).dueLetter(0, 2, 0, 5).due("told(0, 0)", 6);
            Run fresh = Run.of("person(0, 0, 3)", "person(0, 0, 0)", "person(0, 0, 6)", "set(1, 0, 3)");
            fresh.rule("carries read=2;softens read*10;writes 40;").does("send(2, 1)").due("day()", 0).dueLetter(0, 2, 20, 5);
            // A widow carries by the tone that was, an ord softens by it.
            Run widow = Run.of("person(1, 0, 3)", "person(0, 0, 0)", "person(0, 0, 6)", "set(1, 0, 3)");
            widow.rule("carries 0;softens 9;writes 50;").does("send(2, 1)").due("day()", 0).dueLetter(0, 2, 32, 5);
            Run ord = Run.of("person(3, 1, 3)", "person(0, 0, 0)", "person(0, 0, 6)", "set(1, 0, 3)");
            ord.rule("carries 1;softens 9;writes 21;").does("send(2, 1)").due("day()", 0).dueLetter(0, 2, 3, 5);
        });
    }

    private static void toneBounds() {
        Said.says(Said.TERMS, "TONE is less by what that one SOFTENS (told with that; 0 .. 99, else the bound)", () -> {
            int[] tones = {0, 1, 9, 10, 11, 99, 0, 88, 89, 90, 98, 99, 99, 0};
            int[] softens = {10, 10, 10, 10, 10, 10, -10, -10, -10, -10, -10, -10, 99, -99};
            int[] behind = {0, 0, 0, 0, 1, 89, 10, 98, 99, 99, 99, 99, 0, 99};
            for (int i = 0; i < tones.length; i++) {
                Run run = Villages.asked(0, 0, "carries 1;softens " + softens[i] + ";writes 40;", false, 40, 0);
                run.does("set(1, 0, 4)", "send(1, 2)", "set(3, 1, " + tones[i] + ")", "day()").dueLetter(1, 2, behind[i], 3);
            }
            // A widow's twice 99 as well.
            Run run = Villages.asked(1, 0, "carries 1;softens 99;writes 40;", false, 40, 0);
            run.does("set(1, 0, 4)", "send(1, 2)", "set(3, 1, 99)", "day()").dueLetter(1, 2, 0, 3);
        });
    }

    private static void houseBelow() {
        Said.says(Said.TERMS, "does nobody LIVE there, it is AT the HOUSE below.", () -> {
            // Once round all houses: nobody lives in any but 3 and 4, and who lives in 4 wrote it.
            Run run = Run.of("person(0, 0, 3)", "person(0, 0, 4)", "set(1, 0, 0)", "send(1, 0)", "swap(0, 1)");
            int[] at = {2, 1, 0, 7, 6, 5, 4};
            run.dueLetter(0, 3, 40, 2);
            for (int house : at) {
                run.due("day()", 0).dueLetter(0, house, 35, 2);
            }
            run.due("day()", 1).dueLetter(0, -1, 35, 3);
        });
    }

    private static void oneMore() {
        Said.says(Said.TERMS, "DAY is 1 more.", () -> {
            new Run().due("day()", 0).due("told(0, 0)", 1).due("day()", 0).due("told(0, 0)", 2);
            Run.of("set(0, 0, 998)").due("day()", 0).due("told(0, 0)", 999).due("day()", -3).due("told(0, 0)", 999);
            // One more behind all letters, not behind each.
            Villages.eightLetters().due("told(0, 0)", 1).does("day()").due("told(0, 0)", 2);
        });
    }

    private static void days() {
        Said.says(Said.TERMS, "n DAYS (0 .. 40), in thought (there DAY may pass 999): where a LETTER is AT (NONE: HOME); TONE; who "
            + "has READ it (bits); how many are HOME.", () -> {
            // Kept by 1 till the day of the rule, from 960 on: on the last day, behind it, and never.
            Run run = Run.of("person(0, 0, 0)", "person(0, 0, 3)", "person(0, 0, 5)", "set(1, 0, 3)", "send(2, 0)", "set(0, 0, 999)");
            run.text("carries day=1036;softens 9;writes 40;", 1).text("carries day=1035;softens 9;writes 40;", 2);
            run.text("carries 999<day;softens 9;writes 40;", 3).text("carries day=999;softens 9;writes 40;", 4);
            run.does("force(1)").due("run(0, 40, 0)", 0).due("run(0, 40, 1)", 31).due("run(0, 40, 2)", 6).due("run(0, 40, 3)", 0);
            run.due("run(0, 37, 0)", 3).due("run(0, 38, 0)", 2).due("run(0, 41, 0)", -2).due("run(0, -1, 0)", -2);
            run.does("force(2)").due("run(0, 39, 0)", 0).due("run(0, 40, 0)", -1).due("run(0, 40, 2)", 7).due("run(0, 40, 3)", 1);
            run.due("run(0, 39, 3)", 0).due("run(0, 39, 2)", 6).due("run(0, 0, 0)", 3).due("run(0, 0, 1)", 40).due("run(0, 0, 2)", 4);
            run.does("force(3)").due("run(0, 1, 0)", 3).due("run(0, 2, 0)", 2).due("run(0, 5, 0)", -1);
            run.does("force(4)").due("run(0, 1, 0)", 2).due("run(0, 4, 0)", -1).due("run(0, 40, 1)", 31);
            run.due("told(0, 0)", 999).dueLetter(0, 3, 40, 4).due("count(2)", 0);
            // In thought too a letter is from whom it is from: a baker keeps an own one alone, and mine is told of it.
            Run own = Run.of("person(0, 0, 0)", "person(2, 0, 3)", "person(0, 0, 5)", "set(1, 0, 4)", "send(1, 0)", "set(1, 0, 6)",
                "send(2, 0)");
            own.rule("carries 1;softens 9*mine;writes 40;").due("run(0, 2, 0)", 3).due("run(0, 40, 0)", 3).due("run(0, 40, 2)", 2);
            own.due("run(1, 2, 1)", 31).due("run(1, 40, 0)", -1).due("run(1, 40, 1)", 31).due("run(1, 40, 2)", 7)
                .due("run(1, 40, 3)", 1);
        });
    }

    private static void behindTheLastDay() {
        Said.says(Said.TERMS, "in thought (there DAY may pass 999)", () -> {
            // 1 keeps the letter of 2 to 0 on 999 and 1000, and carries it on 1001.
            Run run = Run.of("person(0, 0, 0)", "person(0, 0, 3)", "person(0, 0, 5)", "set(1, 0, 3)", "send(2, 0)", "set(0, 0, 999)");
            run.rule("carries day=1001;softens 9;writes 40;").due("run(0, 2, 0)", 3).due("run(0, 3, 0)", 2).due("run(0, 40, 0)", -1);
            run.due("comes(0)", 6).due("hide(0, 0, 5, 0)", 0).due("hide(0, 0, 6, 0)", 2).due("hide(0, 0, 40, 1)", 1);
            run.due("tell(2, 6, 5)", 0).due("tell(2, 7, 5)", -1).due("tell(2, 7, 6)", 0).due("mistake(40, 1)", 1);
            run.due("live(5, 1)", 1).due("live(5, 0)", 416).due("live(6, 0)", 146).due("live(0, 0)", 146);
            run.due("film(0, 0, 7)", 7).fill(1, 0, 3, 3, 2, 1, 0, -1, -1).due("tells(0, 0, 0, 0)", -1).due("tells(1, 0, 0, 0)", -1);
            run.due("told(0, 0)", 999).dueLetter(0, 3, 40, 4).due("day()", -3);
            // Drawn posts: on 999, 1000, .. by the one rule all goes as on 0, 1, .. by the other.
            Run drawn = Run.of("person(0, 0, 0)", "person(0, 0, 7)", "set(0, 0, 999)").rule("carries 1000<day;softens 9;writes 40;");
            drawn.does("send(0, 1)").due("told(0, 9)", 0).due("run(0, 2, 0)", 0).due("run(0, 3, 0)", 7).due("run(0, 4, 0)", -1);
            drawn.due("day()", -3);
            Run early = Run.of("person(0, 0, 0)", "person(0, 0, 7)").rule("carries 1<day;softens 9;writes 40;").does("send(0, 1)");
            for (int n = 0; n <= 40; n++) {
                drawn.due("drawn(77, " + n + ")", early.asks("drawn(77, " + n + ")"));
            }
        });
    }

    private static void comesTerm() {
        Said.says(Said.TERMS, "COMES (a LETTER): behind how many DAYS (0 .. 60) it is HOME first; NONE.", () -> {
            Run run = Run.of("person(0, 0, 0)", "person(0, 0, 3)", "person(0, 0, 5)", "set(1, 0, 3)", "send(2, 0)");
            run.rule("carries day=56;softens 9;writes 40;");
            // It is carried on day 56, and home three days later.
            run.due("comes(0)", 60).does("set(0, 0, 1)").due("comes(0)", 59).does("set(0, 0, 56)").due("comes(0)", 4);
            run.does("set(0, 0, 57)").due("comes(0)", -1).text("carries day=57;softens 9;writes 40;", 2);
            run.does("set(0, 0, 0)", "force(2)").due("comes(0)", -1).does("set(0, 0, 1)").due("comes(0)", 60);
            run.does("force(0)").due("comes(0)", 4).does("day()", "day()", "day()").due("comes(0)", 1).due("day()", 1)
                .due("comes(0)", 0);
            run.does("set(0, 0, 999)").due("comes(0)", 0).does("send(2, 0)").due("comes(1)", 4);
        });
    }

    private static void knows() {
        Said.says(Said.TERMS, "KNOWS (one): LETTERS (bits) one has READ.", () -> {
            Run run = Run.of("person(0, 0, 0)", "person(0, 0, 3)", "person(0, 0, 5)", "set(1, 0, 0)").due("told(0, 6)", 0);
            for (int letter = 0; letter < 8; letter++) {
                run.due("told(1, 6)", 0).due("told(0, 6)", (1 << letter) - 1).due("send(0, 1)", letter);
            }
            run.due("told(0, 6)", 255).due("told(1, 6)", 0).due("day()", 255).due("told(0, 6)", 255).due("told(1, 6)", 255)
                .due("told(2, 6)", 0);
        });
    }

    private static void send() {
        Said.says(P11, "SENT, truly: the LETTER.", () -> {
            Run run = Run.of("person(0, 0, 0)", "person(5, 3, 7)");
            for (int letter = 0; letter < 8; letter++) {
                run.due(letter % 2 == 0 ? "send(0, 1)" : "send(1, 0)", letter).due("count(1)", letter + 1);
            }
            run.dueLetter(0, 0, 40, 1).dueLetter(7, 1, 30, 2).due("send(0, 1)", -4);
        });
        String sentence = "BAD: no such two, one and the same; FULL.";
        Said.refuses(P11, sentence, -2, Villages::some, "send(-1, 0)", "send(0, -1)", "send(4, 0)", "send(0, 4)", "send(0, 0)",
            "send(3, 3)", "send(4, 4)", "send(-1, -1)", "send(MIN, 0)", "send(0, MIN)", "send(MAX, 0)", "send(0, MAX)");
        Said.refuses(P11, sentence, -2, Villages::none, "send(0, 1)", "send(0, 0)");
        Said.refuses(P11, sentence, -2, Villages::eightLetters, "send(0, 3)", "send(3, 0)", "send(-1, 0)", "send(0, -1)",
            "send(1, 1)");
        Said.refuses(P11, sentence, -4, Villages::eightLetters, "send(0, 1)", "send(2, 1)");
    }

    private static void day() {
        Said.says(P12, "A DAY, truly: LETTERS that come HOME by it (bits).", () -> {
            new Run().due("day()", 0);
            for (int letter = 0; letter < 8; letter++) {
                // Only this one is where whom it is to lives.
                Run run = Run.of("person(4, 9, 0)", "person(4, 9, 4)", "set(1, 0, 3)");
                for (int i = 0; i < 8; i++) {
                    run.does("set(1, 0, " + (i == letter ? 0 : 3) + ")", "send(0, 1)");
                }
                run.due("day()", 1 << letter).due("count(2)", 1).due("day()", 0).due("day()", 0).due("day()", 255 - (1 << letter));
            }
            Villages.eightLetters().due("count(2)", 2).does("set(0, 0, 998)").due("day()", 0).due("told(0, 0)", 999);
        });
        Said.refuses(P12, "STATE: DAY is 999.", -3, Villages::lastDay, "day()");
        Said.refuses(P12, "STATE: DAY is 999.", -3, () -> Run.of("set(0, 0, 998)", "day()"), "day()");
        Said.says(P12, "STATE: DAY is 999.", () ->
            Villages.lastDay().due("day()", -3).dueLetter(0, 3, 40, 1).due("set(0, 0, 998)", 999).due("day()", 1).due("day()", -3));
    }

    private static void run() {
        Said.says(P13, "n DAYS: where a LETTER is AT (what 0; NONE: HOME), TONE (1), READ (2; bits), how many LETTERS are HOME (3).",
            () -> {
            // As days truly passed, from none to the most, of each letter there is.
            Run truly = Villages.eightLetters();
            for (int n = 0; n <= 40; n += n < 6 ? 1 : 17) {
                Run thought = Villages.eightLetters();
                while (truly.asks("told(0, 0)") < 1 + n) {
                    truly.does("day()");
                }
                for (int letter = 0; letter < 8; letter++) {
                    thought.due("run(" + letter + ", " + n + ", 0)", truly.asks("told(" + letter + ", 9)"));
                    thought.due("run(" + letter + ", " + n + ", 1)", truly.asks("told(" + letter + ", 3)"));
                    thought.due("run(" + letter + ", " + n + ", 2)", truly.asks("told(" + letter + ", 10)"));
                    thought.due("run(" + letter + ", " + n + ", 3)", truly.asks("count(2)"));
                }
            }
            Villages.eightLetters().due("run(0, 40, 3)", 8).due("run(7, 0, 3)", 2).due("run(0, 0, 0)", -1).due("run(0, 40, 0)", -1);
            Said.stays(0, Villages::some, "run(0, 0, 3)", "run(2, 0, 3)");
            Said.stays(4, Villages::some, "run(0, 40, 3)", "run(3, 40, 3)");
        });
    }

    private static void runWrong() {
        Said.refuses(P13, "BAD.", -2, Villages::some, "run(-1, 0, 0)", "run(4, 0, 0)", "run(4, 0, 3)", "run(MIN, 0, 0)",
            "run(MAX, 0, 0)", "run(0, -1, 0)", "run(0, 41, 0)", "run(0, MIN, 0)", "run(0, MAX, 0)", "run(0, 0, -1)", "run(0, 0, 4)",
            "run(0, 0, MIN)", "run(0, 0, MAX)", "run(0, 41, 3)", "run(-1, 0, 3)");
        Said.refuses(P13, "BAD.", -2, Villages::none, "run(0, 0, 0)", "run(0, 0, 3)");
    }

    private static void comes() {
        Said.says(P14, "COMES.", () -> {
            Villages.eightLetters().due("comes(0)", 0).due("comes(1)", 0).due("comes(2)", 4).due("comes(7)", 4);
            Said.stays(1, Villages::some, "comes(2)");
        });
        Said.refuses(P14, "BAD; NONE.", -2, Villages::some, "comes(-1)", "comes(4)", "comes(8)", "comes(MIN)", "comes(MAX)");
        Said.refuses(P14, "BAD; NONE.", -2, Villages::none, "comes(0)");
        Said.refuses(P14, "BAD; NONE.", -1, () -> Villages.some().does("set(2, 2, 5)"), "comes(0)");
    }
}
