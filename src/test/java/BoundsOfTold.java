/** The bounds of days that were told, of drawn posts and of the image: promises 20 to 26. */
final class BoundsOfTold {
    private static final String P20 = Said.promise(20), P21 = Said.promise(21), P22 = Said.promise(22), P23 = Said.promise(23),
        P24 = Said.promise(24), P25 = Said.promise(25), P26 = Said.promise(26);
    private static final int[] SEEDS = {0, 1, 2, 3, 5, 7, 11, -1, -2, -3, 100, 99999, 123456789, -987654321, 0x40000000,
        Integer.MAX_VALUE, Integer.MAX_VALUE - 5, Integer.MIN_VALUE, Integer.MIN_VALUE + 5};

    private BoundsOfTold() {
    }

    static void hold() {
        firstOtherwise();
        kindsAndNumbers();
        daysAndTexts();
        lettersSo();
        drawnTerm();
        drawnOrder();
        drawnRoom();
        chanceTerm();
        imageTerm();
        tells();
        tellsRefused();
        film();
        drawn();
        chance();
        image();
        back();
        count();
    }

    /** 1 lives in 3, a letter of 2 to 0 is at 3; on day 50. */
    private static Run village(int kind, int number) {
        return Run.of("person(0, 0, 0)", "person(" + kind + ", " + number + ", 3)", "person(0, 0, 5)", "set(1, 0, 3)", "send(2, 0)",
            "set(0, 0, 50)");
    }

    private static void firstOtherwise() {
        Said.says(Said.TERMS, "TOLD: a SHEET tells where a LETTER is AT behind 1, 2, .. DAYS (-1: HOME; 20 at most): the first (from "
            + "0) that is otherwise; NONE;", () -> {
            int[] twenty = {2, 1, 0, -1, -1, -1, -1, -1, -1, -1, -1, -1, -1, -1, -1, -1, -1, -1, -1, -1};
            for (int sort = 0; sort < 3; sort++) {
                Run run = village(0, 0).fill(1, sort).due("tells(1, 0, 0, 0)", -1).fill(0, sort, twenty).due("tells(0, 0, 0, 0)", -1);
                for (int i = 19; i >= 0; i--) {
                    int otherwise = twenty[i] == -1 ? -2 : 3;
                    run.does("cell(0, " + i + ", " + otherwise + ")").due("tells(0, 0, 0, 0)", i);
                    run.does("cell(0, " + i + ", " + twenty[i] + ")").due("tells(0, 0, 0, 0)", -1);
                }
                run.does("cell(0, 19, 0)").due("tells(0, 0, 0, 0)", 19).does("cell(0, 3, 8)").due("tells(0, 0, 0, 0)", 3);
                run.does("cell(0, 0, 100)").due("tells(0, 0, 0, 0)", 0);
                run.does("sheet(2, " + sort + ", 21)").due("tells(2, 0, 0, 0)", -2).does("sheet(2, " + sort + ", 20)")
                    .due("tells(2, 0, 0, 0)", 0);
            }
            // From 0 on to 7, and behind the last day.
            Run round = Run.of("person(0, 0, 7)", "person(0, 0, 4)", "set(1, 0, 2)", "send(1, 0)", "set(0, 0, 999)");
            round.due("told(0, 9)", 1).fill(0, 0, 0, 7, -1).due("tells(0, 0, 1, 0)", -1).does("cell(0, 1, -1)")
                .due("tells(0, 0, 1, 0)", 1);
            // Kept by 1 till the day of the rule: told on the days as they go on from now.
            Run kept = village(0, 0).rule("carries day=52;softens 0;writes 0;").fill(0, 0, 3, 3, 2, 1, 0, -1)
                .due("tells(0, 0, 0, 0)", -1);
            kept.does("set(0, 0, 51)").due("tells(0, 0, 0, 0)", 1).does("set(0, 0, 53)").due("tells(0, 0, 0, 0)", 2);
            // Of one that is home.
            Run home = Run.of("person(0, 0, 7)", "person(0, 0, 4)", "set(1, 0, 0)", "send(1, 0)", "day()").fill(0, 2, -1, -1, -1);
            home.due("tells(0, 0, 0, 0)", -1).does("cell(0, 2, 7)").due("tells(0, 0, 0, 0)", 2);
        });
    }

    private static void kindsAndNumbers() {
        Said.says(Said.TERMS, "of one of PEOPLE KINDS (bits 0 .. 5), NUMBERS (bits 0 .. 9);", () -> {
            Run kinds = village(0, 5).fill(0, 0, 2).fill(1, 0, 3).fill(2, 0).fill(3, 0, 9);
            kinds.due("tells(0, 0, 1, 1)", 47).due("tells(1, 0, 1, 1)", 16).due("tells(2, 0, 1, 1)", 63).due("tells(3, 0, 1, 1)", 0);
            kinds.due("tells(0, 0, 2, 1)", 63).due("tells(1, 0, 2, 1)", 0).does("set(2, 1, 1)").due("tells(0, 0, 1, 1)", 55)
                .due("tells(1, 0, 1, 1)", 8);
            kinds.rule("carries 0;softens 0;writes 0;").due("tells(0, 0, 1, 1)", 32).due("tells(1, 0, 1, 1)", 31);
            kinds.does("set(3, 0, 50)").due("tells(0, 0, 1, 1)", 34).due("told(1, 4)", 0).due("told(1, 2)", 1);
            Run keeper = village(4, 7).fill(0, 0, 2).fill(1, 0, 3).fill(2, 0).fill(3, 0, 9);
            keeper.due("tells(0, 0, 1, 2)", 31).due("tells(1, 0, 1, 2)", 992).due("tells(2, 0, 1, 2)", 1023)
                .due("tells(3, 0, 1, 2)", 0);
            keeper.due("tells(0, 0, 0, 2)", 0).due("tells(1, 0, 2, 2)", 1023);
            Run numbers = village(0, 4).fill(0, 0, 2).fill(1, 0, 3).rule("carries number=0;softens 0;writes 0;");
            numbers.due("tells(0, 0, 1, 2)", 1).due("tells(1, 0, 1, 2)", 1022).rule("carries number=9;softens 0;writes 0;");
            numbers.due("tells(0, 0, 1, 2)", 512).due("tells(1, 0, 1, 2)", 511).due("told(1, 2)", 4);
        });
    }

    private static void daysAndTexts() {
        Said.says(Said.TERMS, "DAYS (of 0 .. 99: how many, the least), TEXTS (bits), were they THE RULE, by which all would be so;",
            () -> {
            Run run = village(0, 0).fill(0, 0, 2).fill(1, 0, 3).fill(2, 0).fill(3, 0, 9);
            run.does("set(0, 0, 500)").due("tells(0, 0, 1, 3)", 100).due("tells(0, 0, 1, 4)", 0).due("tells(1, 0, 1, 3)", 0);
            run.due("tells(1, 0, 1, 4)", -1).due("tells(2, 0, 1, 3)", 100).due("tells(2, 0, 1, 4)", 0).due("tells(3, 0, 1, 4)", -1);
            run.text("carries day=0;softens 0;writes 0;", 1).text("carries day=99;softens 0;writes 0;", 2);
            run.text("carries day=100;softens 0;writes 0;", 3).text("carries 98<day;softens 0;writes 0;", 4);
            run.due("tells(0, 0, 1, 5)", 17).due("tells(1, 0, 1, 5)", 14).due("tells(2, 0, 1, 5)", 31).due("tells(3, 0, 1, 5)", 0);
            run.does("force(1)").due("tells(0, 0, 1, 3)", 1).due("tells(0, 0, 1, 4)", 0).due("tells(1, 0, 1, 3)", 99)
                .due("tells(1, 0, 1, 4)", 1);
            run.does("force(2)").due("tells(0, 0, 1, 3)", 1).due("tells(0, 0, 1, 4)", 99).due("tells(1, 0, 1, 3)", 99)
                .due("tells(1, 0, 1, 4)", 0);
            run.does("force(3)").due("tells(0, 0, 1, 3)", 0).due("tells(0, 0, 1, 4)", -1).due("tells(1, 0, 1, 3)", 100);
            run.does("set(0, 0, 99)").due("tells(0, 0, 1, 5)", 21).due("tells(1, 0, 1, 5)", 10).does("set(0, 0, 0)")
                .due("tells(0, 0, 1, 5)", 3);
            run.text("carries 1;softens 0;writes 0;", 5).due("tells(0, 0, 1, 5)", 35).due("tells(1, 0, 1, 5)", 28)
                .due("tells(2, 0, 1, 5)", 63);
            run.due("told(0, 0)", 0).due("count(5)", 3);
            // By the days behind the first as well: kept on one day, carried on the next.
            Run next = village(0, 0).rule("carries day=99;softens 0;writes 0;").fill(0, 0, 3, 2).fill(1, 0, 3, 3, 3)
                .fill(2, 0, 2, 1, 0, -1);
            next.due("tells(0, 0, 1, 3)", 1).due("tells(0, 0, 1, 4)", 98).due("tells(1, 0, 1, 3)", 97).due("tells(1, 0, 1, 4)", 0);
            next.due("tells(2, 0, 1, 3)", 1).due("tells(2, 0, 1, 4)", 99);
            next.rule("carries day=100;softens 0;writes 0;").due("tells(0, 0, 1, 3)", 1).due("tells(0, 0, 1, 4)", 99);
            next.due("tells(2, 0, 1, 3)", 0).due("tells(2, 0, 1, 4)", -1);
        });
    }

    private static void lettersSo() {
        Said.says(Said.TERMS, "LETTERS (bits) of which it is so.", () -> {
            Run run = village(0, 0).fill(0, 0, 2).fill(1, 0).fill(2, 0, 9).due("tells(0, 0, 0, 6)", 1).due("tells(1, 0, 0, 6)", 1);
            for (int letter = 1; letter < 8; letter++) {
                run.does("send(1, 0)").due("tells(0, 0, 0, 6)", (2 << letter) - 1);
            }
            run.due("tells(1, 7, 2, 6)", 255).due("tells(2, 0, 0, 6)", 0).does("day()").due("tells(0, 0, 0, 6)", 0)
                .due("tells(1, 0, 0, 6)", 255);
            // Only the last one, only the first one.
            Run two = village(0, 0).does("set(1, 0, 5)");
            for (int letter = 1; letter < 8; letter++) {
                two.does(letter == 7 ? "set(1, 0, 4)" : "set(1, 0, 5)", "send(1, 0)");
            }
            two.fill(0, 0, 3).due("tells(0, 0, 0, 6)", 128).does("cell(0, 0, 2)").due("tells(0, 0, 0, 6)", 1).does("cell(0, 0, 4)")
                .due("tells(0, 7, 0, 6)", 126);
        });
    }

    /** Who is drawn, one and another one for each of n days: in numbers so wide that none goes round. */
    private static int[] draws(int seed, int n) {
        int[] drawn = new int[2 * n];
        long last = seed & 0xffffffffL;
        for (int i = 0; i < drawn.length; i++) {
            last = (last * 1103515245L + 12345L) % 4294967296L;
            drawn[i] = (int) (last / 512 % 8);
        }
        return drawn;
    }

    /** How many are sent, among so many people, if there is room for so many. */
    private static int sent(int seed, int n, int people, int room) {
        int[] drawn = draws(seed, n);
        int sent = 0;
        for (int day = 0; day < n; day++) {
            int one = drawn[2 * day];
            int other = drawn[2 * day + 1];
            sent += one < people && other < people && one != other && sent < room ? 1 : 0;
        }
        return sent;
    }

    private static void drawnTerm() {
        Said.says(Said.TERMS, "DRAWN by a SEED: n DAYS (0 .. 40), in thought, ahead of each who is numbered (z >>> 9) % 8 SENDS one "
            + "to who is numbered (y >>> 9) % 8 (z, then y, each being the last one * 1103515245 + 12345, an int; SEED at first), if "
            + "these are two that are there, and there is room: how many are HOME then.", () -> {
            // Without a slip each is home on the day ahead of which it is sent.
            for (int people = 0; people <= 5; people++) {
                Run run = new Run();
                for (int one = 0; one < people; one++) {
                    run.does("person(4, 9, " + (one + 2) + ")");
                }
                run.does("set(1, 0, 0)");
                for (int seed : SEEDS) {
                    for (int n : new int[] {0, 1, 2, 9, 10, 39, 40}) {
                        run.due("drawn(" + seed + ", " + n + ")", sent(seed, n, people, 8));
                    }
                }
                run.due("drawn(5, 41)", -2).due("drawn(5, -1)", -2).due("count(1)", 0).due("told(0, 0)", 0);
            }
        });
    }

    private static void drawnOrder() {
        Said.says(Said.TERMS, "ahead of each who is numbered (z >>> 9) % 8 SENDS one to who is numbered (y >>> 9) % 8", () -> {
            // What is to 0 comes home on the second day; what is to 1 is at 0, where 0 keeps it.
            Run run = Run.of("person(0, 0, 0)", "person(0, 0, 7)").rule("carries 0;softens 0;writes 0;");
            for (int seed : SEEDS) {
                for (int n = 0; n <= 20; n++) {
                    int[] drawn = draws(seed, n);
                    int homes = 0;
                    for (int day = 0; day + 1 < n; day++) {
                        homes += drawn[2 * day] == 1 && drawn[2 * day + 1] == 0 ? 1 : 0;
                    }
                    Due.due("no more than there is room for", sent(seed, n, 2, 100) <= 8);
                    run.due("drawn(" + seed + ", " + n + ")", homes);
                }
            }
        });
    }

    private static void drawnRoom() {
        Said.says(Said.TERMS, "if these are two that are there, and there is room", () -> {
            for (int letters : new int[] {0, 6, 7, 8}) {
                Run run = Run.of("person(4, 9, 0)", "person(4, 9, 1)", "person(4, 9, 2)", "person(4, 9, 4)", "person(4, 9, 5)",
                    "set(1, 0, 1)");
                for (int letter = 0; letter < letters; letter++) {
                    // At 1, where 1 keeps it for ever.
                    run.does("send(2, 0)");
                }
                run.does("set(1, 0, 0)", "set(0, 0, 999)");
                for (int seed : SEEDS) {
                    run.due("drawn(" + seed + ", 40)", sent(seed, 40, 5, 8 - letters));
                }
                run.due("count(1)", letters).due("told(0, 0)", 999);
            }
        });
    }

    private static long term(int above, int below, int part) {
        int divisor = below;
        while (above % divisor != 0 || below % divisor != 0) {
            divisor--;
        }
        return (part == 0 ? above : below) / divisor;
    }

    private static void chanceTerm() {
        Said.says(Said.TERMS, "IN m seeds (1 .. 20), SEED and each 1 more (an int), 10 DAYS: of these those by which that is k (0 .. "
            + "8) or more.", () -> {
            for (int seed : SEEDS) {
                Run run = Run.of("person(4, 9, 0)", "person(4, 9, 1)", "person(4, 9, 2)", "person(4, 9, 4)", "person(4, 9, 5)",
                    "set(1, 0, 0)");
                for (int m : new int[] {1, 2, 12, 19, 20}) {
                    for (int k = 0; k <= 8; k++) {
                        int those = 0;
                        for (int i = 0; i < m; i++) {
                            those += sent(seed + i, 10, 5, 8) >= k ? 1 : 0;
                        }
                        run.due("chance(" + seed + ", " + m + ", " + k + ", 0)", term(those, m, 0));
                        run.due("chance(" + seed + ", " + m + ", " + k + ", 1)", term(those, m, 1));
                    }
                }
                run.due("chance(" + seed + ", 0, 0, 0)", NextHouseUp.NO).due("chance(" + seed + ", 21, 0, 0)", NextHouseUp.NO);
                run.due("chance(" + seed + ", 1, -1, 0)", NextHouseUp.NO).due("chance(" + seed + ", 1, 9, 0)", NextHouseUp.NO);
            }
        });
    }

    private static void imageTerm() {
        Said.says(Said.TERMS, "AN IMAGE keeps DAY, SLIP, NUMBERS, where all LIVE, LETTERS (all of them), THE RULE (PEOPLE that came "
            + "since go).", () -> {
            // Nobody and nothing is kept too; who came and what was sent go, the house is free.
            Run none = new Run().due("image()", 0).does("set(0, 0, 999)", "set(1, 0, 7)", "person(5, 9, 0)", "person(0, 0, 7)",
                "send(0, 1)");
            none.rule("carries 0;softens 0;writes 0;").due("back()", 0).due("told(0, 0)", 0).due("told(0, 1)", 1).due("count(0)", 0);
            none.due("count(1)", 0).due("count(5)", 0).due("count(3)", 2).due("told(0, 2)", -1000).due("told(0, 3)", -1000);
            none.due("person(3, 4, 0)", 0).dueOne(0, 3, 4, 0).due("person(2, 1, 7)", 1).due("send(1, 0)", 0).dueLetter(0, 1, 59, 2);
            // The most there can be of all.
            Run most = Run.of("person(0, 0, 0)", "person(1, 1, 1)", "person(2, 2, 2)", "person(3, 3, 3)", "person(4, 4, 7)",
                "set(1, 0, 7)");
            for (int letter = 0; letter < 8; letter++) {
                most.does("send(" + letter % 5 + ", " + (letter + 1) % 5 + ")");
            }
            most.does("set(0, 0, 990)", "set(3, 7, 99)", "day()", "day()", "day()").due("image()", 5);
            Run same = Run.of("person(0, 0, 0)", "person(1, 1, 1)", "person(2, 2, 2)", "person(3, 3, 3)", "person(4, 4, 7)",
                "set(1, 0, 7)");
            for (int letter = 0; letter < 8; letter++) {
                same.does("send(" + letter % 5 + ", " + (letter + 1) % 5 + ")");
            }
            same.does("set(0, 0, 990)", "set(3, 7, 99)", "day()", "day()", "day()");
            most.does("swap(0, 4)", "swap(1, 2)", "set(0, 0, 1)", "set(1, 0, 0)", "set(2, 4, 9)", "set(2, 0, 9)", "set(3, 0, 1)",
                "set(3, 7, 1)");
            for (int day = 0; day < 20; day++) {
                most.does("day()");
            }
            most.due("back()", 5);
            for (int of = 0; of < 8; of++) {
                for (int what = 0; what <= 10; what++) {
                    String call = "told(" + of + ", " + what + ")";
                    most.due(call, same.asks(call));
                }
            }
            most.due("count(2)", same.asks("count(2)")).due("count(1)", 8);
        });
    }

    private static void tells() {
        Said.says(P20, "TOLD of a LETTER and one of PEOPLE: the first that is otherwise (what 0; NONE), KINDS (1), NUMBERS (2), DAYS: "
            + "how many (3), the least (4; NONE), TEXTS (5), LETTERS (6).", () -> {
            Run run = village(3, 1).fill(0, 0, 3).fill(1, 0, 2).fill(2, 1).fill(3, 2, 7);
            int[][] want = {{-1, 8, 2, 15, 1, 1, 1}, {0, 55, 1021, 85, 0, 0, 0}, {-1, 63, 1023, 100, 0, 1, 1}, {0, 0, 0, 0, -1, 0, 0}};
            for (int sheet = 0; sheet < 4; sheet++) {
                for (int what = 0; what <= 6; what++) {
                    run.due("tells(" + sheet + ", 0, 1, " + what + ")", want[sheet][what]);
                }
            }
            Said.stays(Villages::some, "tells(0, 0, 0, 0)", "tells(0, 0, 0, 1)", "tells(1, 1, 2, 2)", "tells(1, 1, 2, 3)",
                "tells(0, 3, 3, 4)", "tells(2, 3, 3, 5)", "tells(1, 0, 0, 6)");
        });
    }

    private static void tellsRefused() {
        String sentence = "BAD: SHEET, no such LETTER, none such, what; -11; BAD: it tells more than 20.";
        String[] wrong = {"tells(-1, 0, 0, 0)", "tells(4, 0, 0, 0)", "tells(MIN, 0, 0, 0)", "tells(MAX, 0, 0, 0)",
            "tells(0, -1, 0, 0)", "tells(0, 4, 0, 0)", "tells(0, MIN, 0, 0)", "tells(0, MAX, 0, 0)", "tells(0, 0, -1, 0)",
            "tells(0, 0, 4, 0)", "tells(0, 0, MIN, 0)", "tells(0, 0, MAX, 0)", "tells(0, 0, 0, -1)", "tells(0, 0, 0, 7)",
            "tells(0, 0, 0, MIN)", "tells(0, 0, 0, MAX)", "tells(0, 4, 0, 6)", "tells(0, 0, 4, 6)", "tells(0, 0, 4, 5)"};
        Said.refuses(P20, sentence, -2, Villages::some, wrong);
        Said.refuses(P20, sentence, -2, Villages::none, "tells(0, 0, 0, 0)", "tells(0, 0, 0, 6)", "tells(0, 0, 0, 1)");
        Said.refuses(P20, sentence, -2, Villages::some, "tells(3, 4, 0, 0)", "tells(3, 0, 4, 0)", "tells(3, 0, 0, 7)");
        for (int what = 0; what <= 6; what++) {
            Said.refuses(P20, sentence, -11, Villages::some, "tells(3, 0, 0, " + what + ")");
            Said.refuses(P20, sentence, -2, () -> Villages.some().does("sheet(3, 1, 21)"), "tells(3, 0, 0, " + what + ")");
            Said.refuses(P20, sentence, -2, () -> Villages.some().does("sheet(3, 2, 40)"), "tells(3, 0, 0, " + what + ")");
        }
        Said.says(P20, sentence, () -> Villages.some().does("sheet(3, 1, 20)").due("tells(3, 0, 0, 0)", 0)
            .due("tells(3, 0, 0, 6)", 0));
    }

    private static void film() {
        Said.says(P21, "A SHEET truly becomes where a LETTER is AT behind 1, .., n DAYS (n 0 .. 20; bytes): n.", () -> {
            Run run = village(0, 0).due("film(0, 0, 0)", 0).due("cell(0, 0, 0)", -12).due("tells(0, 0, 0, 0)", -1);
            run.due("film(3, 0, 1)", 1).due("cell(3, 1, 0)", -12).due("tells(3, 0, 0, 0)", -1).due("cell(1, 0, 0)", -11);
            run.due("film(1, 0, 20)", 20).due("cell(1, 20, 0)", -12).due("tells(1, 0, 0, 0)", -1).due("copy(1, 0, 3, 0, 1)", 1);
            // Bytes, whatever it was, and nothing of that is left.
            run.fill(2, 2, 9, 9, 9, 9, 9, 9, 9).due("film(2, 0, 5)", 5).due("cell(2, 5, 0)", -12).due("copy(2, 0, 1, 0, 5)", 5)
                .due("tells(2, 0, 0, 0)", -1);
            run.fill(0, 0, 2, 1, 0, -1, -1).due("copy(2, 0, 1, 0, 5)", 5).due("tells(0, 0, 0, 0)", -1);
            run.does("set(0, 0, 999)", "day()").due("film(2, 0, 20)", 20).due("tells(2, 0, 0, 0)", -1).due("told(0, 0)", 999)
                .dueLetter(0, 3, 40, 4);
            // As it is truly then, by house 0 and round to 7.
            Run round = Run.of("person(0, 0, 6)", "person(0, 0, 4)", "set(1, 0, 3)", "send(1, 0)").due("film(0, 0, 4)", 4)
                .fill(1, 0, 0, 7, 6, -1);
            round.due("tells(1, 0, 0, 0)", -1).due("tells(0, 0, 0, 0)", -1).does("day()").due("told(0, 9)", 0)
                .due("tells(0, 0, 0, 0)", 0);
        });
        Said.refuses(P21, "BAD.", -2, Villages::some, "film(-1, 0, 1)", "film(4, 0, 1)", "film(MIN, 0, 1)", "film(MAX, 0, 1)",
            "film(0, -1, 1)", "film(0, 4, 1)", "film(0, MIN, 1)", "film(0, MAX, 1)", "film(0, 0, -1)", "film(0, 0, 21)",
            "film(0, 0, MIN)", "film(0, 0, MAX)", "film(3, 4, 1)", "film(3, 0, 21)", "film(1, 0, 40)");
        Said.refuses(P21, "BAD.", -2, Villages::none, "film(0, 0, 0)", "film(0, 0, 1)");
    }

    private static void drawn() {
        Said.says(P22, "DRAWN.", () -> {
            new Run().due("drawn(0, 0)", 0).due("drawn(MIN, 40)", 0).due("drawn(MAX, 40)", 0);
            Villages.eightLetters().due("drawn(9, 0)", 2).due("drawn(9, 4)", 8).due("drawn(MIN, 40)", 8).due("drawn(MAX, 40)", 8);
            Said.stays(Villages::some, "drawn(0, 40)", "drawn(MIN, 40)", "drawn(MAX, 1)", "drawn(-1, 0)");
        });
        Said.refuses(P22, "BAD: n.", -2, Villages::some, "drawn(0, -1)", "drawn(0, 41)", "drawn(0, MIN)", "drawn(0, MAX)",
            "drawn(MIN, 41)");
        Said.refuses(P22, "BAD: n.", -2, Villages::none, "drawn(0, -1)", "drawn(0, 41)");
    }

    private static void chance() {
        Said.says(P23, "IN m seeds: part 0 above, 1 below the line, in lowest terms.", () -> {
            new Run().due("chance(0, 1, 0, 0)", 1).due("chance(0, 20, 0, 1)", 1).due("chance(0, 20, 1, 0)", 0)
                .due("chance(0, 20, 1, 1)", 1);
            Run all = Villages.eightLetters().due("chance(0, 20, 8, 0)", 1).due("chance(0, 20, 8, 1)", 1)
                .due("chance(MAX, 20, 8, 0)", 1);
            all.due("chance(MIN, 1, 8, 0)", 1);
            Said.stays(Villages::some, "chance(0, 20, 3, 0)", "chance(MAX, 20, 8, 1)", "chance(MIN, 1, 0, 0)");
        });
        String[] wrong = {"chance(0, 0, 0, 0)", "chance(0, 21, 0, 0)", "chance(0, -1, 0, 0)", "chance(0, MIN, 0, 0)",
            "chance(0, MAX, 0, 0)", "chance(0, 1, -1, 0)", "chance(0, 1, 9, 0)", "chance(0, 1, MIN, 0)", "chance(0, 1, MAX, 0)",
            "chance(0, 1, 0, -1)", "chance(0, 1, 0, 2)", "chance(0, 1, 0, MIN)", "chance(0, 1, 0, MAX)"};
        Said.refuses(P23, "NO: m, k, part.", NextHouseUp.NO, Villages::some, wrong);
        Said.refuses(P23, "NO: m, k, part.", NextHouseUp.NO, Villages::none, wrong);
    }

    private static void image() {
        Said.says(P24, "AN IMAGE is kept: how many PEOPLE.", () -> {
            new Run().due("image()", 0).due("back()", 0);
            Villages.fivePeople().due("image()", 5).due("back()", 5);
            // A new one is kept instead of the last, by fewer people too.
            Run run = new Run().due("image()", 0).does("person(0, 1, 0)").due("image()", 1).does("set(2, 0, 2)").due("back()", 1)
                .due("told(0, 2)", 1);
            run.does("person(0, 3, 3)").due("image()", 2).does("set(2, 0, 9)").due("image()", 2).does("set(2, 0, 5)").due("back()", 2);
            run.due("told(0, 2)", 9).due("count(0)", 2);
            Run fewer = Run.of("image()", "person(0, 0, 0)", "person(0, 0, 1)", "image()", "person(0, 0, 2)", "back()")
                .due("count(0)", 2);
            fewer.due("image()", 2).due("person(0, 0, 2)", 2).due("back()", 2);
            Said.stays(4, () -> Villages.some().does("image()"), "image()", "back()");
        });
    }

    private static void back() {
        Said.says(P25, "All that it keeps is as in THE IMAGE: how many PEOPLE.", () -> {
            // What it does not keep stays: texts, the tape, sheets.
            Run run = Villages.some().due("back()", 3).due("count(0)", 3).due("count(1)", 3).due("count(3)", 2).due("count(4)", 29)
                .due("count(5)", 1);
            run.due("told(0, 0)", 10).due("told(0, 1)", 3).dueOne(0, 0, 1, 0).dueOne(1, 3, 2, 2).dueOne(2, 4, 4, 4)
                .due("told(3, 2)", -1000);
            run.dueLetter(0, 5, 10, 1).dueLetter(1, 7, 5, 2).dueLetter(2, 3, 89, 4).due("told(3, 3)", -1000).due("cell(0, 19, 0)", 1);
            run.due("cell(0, 20, 0)", -12).due("cell(1, 4, 0)", -12).due("cell(2, 3, 0)", -12).due("cell(3, 0, 0)", -11)
                .due("text()", 2);
            // As often as one likes, and a day later too.
            run.due("back()", 3).due("day()", 0).does("force(2)", "set(1, 0, 0)").due("back()", 3).due("told(0, 0)", 10)
                .due("told(0, 1)", 3);
            run.due("count(5)", 1).dueLetter(0, 5, 10, 1).due("count(3)", 3).due("person(5, 9, 7)", 3).due("send(3, 0)", 3)
                .due("back()", 3).due("count(1)", 3);
        });
        Said.refuses(P25, "STATE: there is none.", -3, Villages::none, "back()");
        Said.refuses(P25, "STATE: there is none.", -3, Villages::lastDay, "back()");
        Said.refuses(P25, "STATE: there is none.", -3, () -> Villages.sixTexts(Villages.SOUND), "back()");
    }

    private static void count() {
        Said.says(P26, "How many: 0 PEOPLE, 1 LETTERS, 2 LETTERS that are HOME, 3 TEXTS, 4 bytes of THE TAPE, 5 THE RULE.", () -> {
            int[] none = {0, 0, 0, 1, 0, 0};
            Run run = new Run();
            for (int what = 0; what < 6; what++) {
                run.due("count(" + what + ")", none[what]);
            }
            for (int one = 0; one < 5; one++) {
                run.does("person(0, 0, " + one + ")").due("count(0)", one + 1);
            }
            run.does("set(1, 0, 0)");
            for (int letter = 0; letter < 8; letter++) {
                run.does("send(0, 1)").due("count(1)", letter + 1).due("count(2)", letter).does("day()").due("count(2)", letter + 1);
            }
            for (int text = 1; text < 6; text++) {
                run.rule("carries1;softens1;writes1;").due("count(3)", text + 1).due("count(5)", text);
            }
            run.feed("?".repeat(160));
            int[] most = {5, 8, 8, 6, 160, 5};
            for (int what = 0; what < 6; what++) {
                run.due("count(" + what + ")", most[what]);
            }
            int[] some = {4, 4, 0, 2, 29, 1};
            for (int what = 0; what < 6; what++) {
                Said.stays(some[what], Villages::some, "count(" + what + ")");
            }
        });
        Said.refuses(P26, "BAD.", -2, Villages::some, "count(-1)", "count(6)", "count(MIN)", "count(MAX)");
        Said.refuses(P26, "BAD.", -2, Villages::none, "count(-1)", "count(6)");
    }
}
