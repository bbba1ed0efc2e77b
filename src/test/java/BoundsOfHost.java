/** The bounds of the host's sheets: promises 27 to 31. */
final class BoundsOfHost {
    private static final String P27 = Said.promise(27), P28 = Said.promise(28), P29 = Said.promise(29), P30 = Said.promise(30),
        P31 = Said.promise(31);
    private static final int MIN = Integer.MIN_VALUE, MAX = Integer.MAX_VALUE;

    private BoundsOfHost() {
    }

    static void hold() {
        sheetsTerm();
        sheet();
        sheetRefused();
        cell();
        cellRefused();
        copy();
        copyRefused();
        hill();
        hillRefused();
        hillOutside();
        taken();
    }

    /** Letters that stay where they are, by which an item is seen: 0 is home, 1 is at 0, 2 at 7, 3 at 5. */
    private static Run still() {
        return Run.of("person(4, 9, 0)", "person(4, 9, 7)", "person(4, 9, 5)", "person(4, 9, 3)", "set(1, 0, 0)", "send(0, 1)",
            "day()", "set(1, 0, 1)", "send(0, 1)", "set(1, 0, 2)", "send(1, 2)", "send(2, 3)");
    }

    /** The item that stands alone on a sheet is -1, 0, 7, 5, or none of these. */
    private static void dueItem(Run run, int sheet, int want) {
        int[] places = {-1, 0, 7, 5};
        for (int letter = 0; letter < 4; letter++) {
            run.due("tells(" + sheet + ", " + letter + ", 0, 0)", places[letter] == want ? -1 : 0);
        }
    }

    private static void sheetsTerm() {
        Said.says(Said.TERMS, "SHEETS 0 .. 3 are rows of numbers, or missing (as all are at first): of sort 0 bytes, 1 shorts, 2 "
            + "ints.", () -> {
            Run run = new Run();
            for (int sheet = 0; sheet < 4; sheet++) {
                run.due("cell(" + sheet + ", 0, 0)", -11).due("copy(" + sheet + ", 0, " + sheet + ", 0, 0)", -11)
                    .due("hill(" + sheet + ", 0, 0, 0)", -11);
            }
            run.due("cell(-1, 0, 0)", -2).due("cell(4, 0, 0)", -2);
            for (int sort = 0; sort < 3; sort++) {
                run.due("sheet(" + sort + ", " + sort + ", 1)", 1);
            }
            run.due("sheet(3, -2, 1)", -2).due("sheet(3, 3, 1)", -2).due("cell(3, 0, 0)", -11);
            for (int sheet = 0; sheet < 3; sheet++) {
                for (int other = 0; other < 3; other++) {
                    run.due("copy(" + sheet + ", 0, " + other + ", 0, 1)", sheet == other ? 1 : -13);
                    run.due("hill(" + sheet + ", " + other + ", 0, 0)", sheet == other ? 0 : -13);
                }
            }
        });
    }

    private static void sheet() {
        Said.says(P27, "A SHEET becomes a row of n of a sort, all 0, or missing (sort -1: n does not matter): 1.", () -> {
            for (int sort = 0; sort < 3; sort++) {
                Run run = still();
                for (int sheet = 0; sheet < 4; sheet++) {
                    run.due("sheet(" + sheet + ", " + sort + ", 0)", 1).due("cell(" + sheet + ", 0, 5)", -12);
                    run.due("sheet(" + sheet + ", " + sort + ", 1)", 1).due("cell(" + sheet + ", 0, 5)", 1)
                        .due("cell(" + sheet + ", 1, 5)", -12);
                    run.due("sheet(" + sheet + ", " + sort + ", 40)", 1).due("cell(" + sheet + ", 39, 5)", 1)
                        .due("cell(" + sheet + ", 40, 5)", -12);
                }
                // All 0, what stood there and the items that had been cut off too.
                for (int i = 0; i < 40; i++) {
                    run.does("cell(0, " + i + ", 5)");
                }
                run.does("sheet(0, " + sort + ", 3)", "sheet(0, " + sort + ", 40)", "sheet(1, " + sort + ", 20)");
                run.due("copy(0, 0, 1, 0, 20)", 20).due("tells(1, 1, 0, 0)", -1).due("copy(0, 20, 1, 0, 20)", 20)
                    .due("tells(1, 1, 0, 0)", -1);
                // Missing, by whatever n, and a row again.
                for (String n : new String[] {"0", "-1", "41", "40", "MIN", "MAX"}) {
                    run.due("sheet(0, -1, " + n + ")", 1).due("cell(0, 0, 1)", -11);
                }
                run.due("cell(1, 0, 0)", 1).due("sheet(0, " + sort + ", 1)", 1).due("cell(0, 0, 5)", 1);
                run.due("sheet(0, " + (sort + 1) % 3 + ", 1)", 1);
                dueItem(run, 0, 0);
            }
        });
    }

    private static void sheetRefused() {
        String sentence = "BAD: no such SHEET, sort; n above 40; -14.";
        String[] wrong = {"sheet(-1, 0, 1)", "sheet(4, 0, 1)", "sheet(MIN, 0, 1)", "sheet(MAX, 0, 1)", "sheet(-1, -1, 1)",
            "sheet(4, -1, 1)", "sheet(0, -2, 1)", "sheet(0, 3, 1)", "sheet(0, MIN, 1)", "sheet(0, MAX, 1)", "sheet(0, 0, 41)",
            "sheet(0, 2, 41)", "sheet(0, 1, MAX)", "sheet(3, 0, 41)", "sheet(4, 0, -1)", "sheet(0, 3, -1)", "sheet(0, -2, -1)"};
        Said.refuses(P27, sentence, -2, Villages::some, wrong);
        Said.refuses(P27, sentence, -2, Villages::none, wrong);
        String[] below = {"sheet(0, 0, -1)", "sheet(1, 1, -2)", "sheet(2, 2, MIN)", "sheet(3, 0, -1)", "sheet(3, 2, -40)"};
        Said.refuses(P27, sentence, -14, Villages::some, below);
        Said.refuses(P27, sentence, -14, Villages::none, below);
    }

    private static void cell() {
        Said.says(P28, "Item i of a SHEET becomes v (of bytes, shorts its lowest 8, 16 bits): 1.", () -> {
            int[] values = {-1, 0, 7, 5, 8, 127, 128, -128, 255, 256, 257, 263, 261, -256, -257, -249, 32767, 32768, -32768, 65535,
                65536,
                65543, 65541, -65536, -65537, -65529, 0x7fffff05, 0x12340007, 0x123400ff, 0x1234ffff, MIN, MIN + 5, MAX, MAX - 255};
            for (int sort = 0; sort < 3; sort++) {
                Run run = still().does("sheet(0, " + sort + ", 1)");
                for (int v : values) {
                    int kept = sort == 0 ? (v % 256 + 384) % 256 - 128 : sort == 1 ? (v % 65536 + 98304) % 65536 - 32768 : v;
                    dueItem(run.due("cell(0, 0, " + v + ")", 1), 0, kept);
                }
            }
            // Each item of the longest row, and that one alone.
            Run run = still().does("sheet(0, 1, 40)", "sheet(1, 1, 20)").due("cell(0, 0, 7)", 1).due("cell(0, 39, 7)", 1)
                .due("copy(0, 0, 1, 0, 20)", 20);
            run.due("tells(1, 1, 0, 0)", 0).due("cell(1, 0, 0)", 1).due("tells(1, 1, 0, 0)", -1).due("copy(0, 20, 1, 0, 20)", 20);
            run.due("tells(1, 1, 0, 0)", 19).due("cell(1, 19, 0)", 1).due("tells(1, 1, 0, 0)", -1);
        });
    }

    private static void cellRefused() {
        String sentence = "BAD: no such SHEET; -11; -12.";
        Said.refuses(P28, sentence, -2, Villages::some, "cell(-1, 0, 1)", "cell(4, 0, 1)", "cell(MIN, 0, 1)", "cell(MAX, 0, 1)",
            "cell(4, -1, 1)");
        Said.refuses(P28, sentence, -11, Villages::some, "cell(3, 0, 1)", "cell(3, -1, 1)", "cell(3, 40, 1)", "cell(3, MIN, 1)",
            "cell(3, MAX, 1)");
        Said.refuses(P28, sentence, -11, Villages::none, "cell(0, 0, 1)", "cell(3, -1, 1)");
        Said.refuses(P28, sentence, -12, Villages::some, "cell(0, -1, 5)", "cell(0, 20, 5)", "cell(1, 4, 5)", "cell(2, 3, 5)",
            "cell(2, -1, 5)", "cell(0, 39, 5)", "cell(0, 40, 5)", "cell(0, MIN, 5)", "cell(0, MAX, 5)");
        Said.refuses(P28, sentence, -12, () -> Run.of("sheet(0, 0, 0)"), "cell(0, 0, 1)", "cell(0, -1, 1)", "cell(0, 1, 1)");
    }

    private static void copy() {
        Said.says(P29, "n numbers of a SHEET, from item i on, come to another one's item j on (as they were): n.", () -> {
            for (int sort = 0; sort < 3; sort++) {
                Run run = still().fill(0, sort, 7, 5, -1, 9).fill(1, sort, 0, 0, 0)
                    .does("sheet(2, " + sort + ", 1)", "sheet(3, " + sort + ", 0)");
                run.due("copy(0, 0, 1, 0, 0)", 0).due("copy(0, 4, 1, 3, 0)", 0).due("copy(3, 0, 3, 0, 0)", 0)
                    .due("tells(1, 1, 0, 0)", -1);
                run.due("copy(0, 1, 1, 0, 3)", 3).due("copy(1, 0, 2, 0, 1)", 1);
                dueItem(run, 2, 5);
                dueItem(run.due("copy(1, 1, 2, 0, 1)", 1), 2, -1);
                dueItem(run.due("copy(1, 2, 2, 0, 1)", 1), 2, 9);
                run.due("copy(0, 0, 1, 2, 1)", 1).due("copy(1, 2, 2, 0, 1)", 1);
                dueItem(run, 2, 7);
                // From and to itself, as they were ahead of it, upwards, downwards and onto themselves.
                run.due("copy(0, 0, 0, 1, 3)", 3).does("copy(0, 3, 2, 0, 1)");
                dueItem(run, 2, -1);
                dueItem(run.does("copy(0, 2, 2, 0, 1)"), 2, 5);
                dueItem(run.does("copy(0, 1, 2, 0, 1)"), 2, 7);
                dueItem(run.does("copy(0, 0, 2, 0, 1)"), 2, 7);
                run.due("copy(0, 1, 0, 0, 3)", 3).due("copy(0, 0, 0, 0, 4)", 4);
                dueItem(run.does("copy(0, 1, 2, 0, 1)"), 2, 5);
                dueItem(run.does("copy(0, 2, 2, 0, 1)"), 2, -1);
                dueItem(run.does("copy(0, 3, 2, 0, 1)"), 2, -1);
            }
            // The most there can be.
            Run most = still().does("sheet(0, 2, 40)", "sheet(1, 2, 40)", "sheet(2, 2, 1)", "cell(0, 39, 5)")
                .due("copy(0, 0, 1, 0, 40)", 40);
            dueItem(most.due("copy(1, 39, 2, 0, 1)", 1), 2, 5);
            dueItem(most.due("copy(1, 38, 2, 0, 1)", 1).due("copy(0, 40, 1, 40, 0)", 0), 2, 0);
        });
    }

    private static void copyRefused() {
        String sentence = "BAD: no such SHEET; -11; -13: they are of unlike sorts; -12 (also with n below 0).";
        Said.refuses(P29, sentence, -2, Villages::some, "copy(-1, 0, 0, 0, 1)", "copy(4, 0, 0, 0, 1)", "copy(0, 0, -1, 0, 1)",
            "copy(0, 0, 4, 0, 1)", "copy(MIN, 0, 0, 0, 1)", "copy(0, 0, MAX, 0, 1)", "copy(3, 0, 4, 0, 1)", "copy(4, 0, 3, 0, 1)",
            "copy(4, -1, 3, -1, -1)");
        Said.refuses(P29, sentence, -11, Villages::some, "copy(3, 0, 0, 0, 1)", "copy(0, 0, 3, 0, 1)", "copy(3, 0, 3, 0, 0)",
            "copy(3, -1, 1, 0, 1)", "copy(2, 0, 3, 99, -1)");
        Said.refuses(P29, sentence, -11, Villages::none, "copy(0, 0, 1, 0, 1)", "copy(0, 0, 0, 0, 0)");
        Said.refuses(P29, sentence, -13, Villages::some, "copy(0, 0, 1, 0, 1)", "copy(1, 0, 0, 0, 1)", "copy(0, 0, 2, 0, 1)",
            "copy(2, 0, 1, 0, 1)", "copy(1, 0, 2, 0, 0)", "copy(0, -1, 1, 0, 1)", "copy(0, 0, 1, 99, 1)", "copy(0, 0, 1, 0, -1)");
        Run alike = Villages.some().does("sheet(3, 0, 4)").due("copy(0, 0, 3, 0, 4)", 4);
        Due.due("sheet 3 tells the same", alike.asks("tells(3, 0, 0, 0)"), -1);
        Said.refuses(P29, sentence, -12, () -> Villages.some().does("sheet(3, 0, 4)", "cell(3, 0, 5)"), "copy(0, -1, 3, 0, 1)",
            "copy(0, 0, 3, -1, 1)", "copy(0, 0, 3, 0, -1)", "copy(0, 0, 3, 0, 5)", "copy(0, 0, 3, 1, 4)", "copy(0, 0, 3, 4, 1)",
            "copy(0, 0, 3, 5, 0)", "copy(3, 0, 0, 0, 5)", "copy(3, 1, 0, 0, 4)", "copy(3, 4, 0, 0, 1)", "copy(3, 5, 0, 0, 0)",
            "copy(0, 20, 3, 0, 1)", "copy(0, 21, 3, 0, 0)", "copy(0, 17, 3, 0, 4)", "copy(0, -1, 3, 0, 0)", "copy(0, 0, 3, -1, 0)",
            "copy(0, 1, 3, 1, MIN)", "copy(0, 0, 3, 0, MAX)", "copy(0, MAX, 3, 0, MAX)", "copy(0, 1, 3, 0, MAX)",
            "copy(0, 0, 3, MAX, 1)", "copy(0, 0, 3, 1, MAX)", "copy(0, MIN, 3, 0, MIN)", "copy(0, MAX, 3, MAX, 2)",
            "copy(0, MIN, 3, MIN, MAX)", "copy(3, 0, 3, 1, 4)", "copy(3, 1, 3, 0, -1)");
    }

    private static void hill() {
        Said.says(P30, "PEOPLE by a SHEET that is taken for one of a sort: from one on, three by three (as of person()), n of them (0 "
            + ".. 5): how many came (others are left out).", () -> {
            int[] five = {9, 5, 9, 7, 0, 0, 0, 1, 1, 1, 2, 2, 2, 4, 4, 4};
            for (int sort = 0; sort < 3; sort++) {
                Run run = new Run().fill(0, sort, five).due("hill(0, " + sort + ", 1, 0)", 0).due("count(0)", 0)
                    .due("hill(0, " + sort + ", 1, 5)", 5);
                run.dueOne(0, 5, 9, 7).dueOne(1, 0, 0, 0).dueOne(2, 1, 1, 1).dueOne(3, 2, 2, 2).dueOne(4, 4, 4, 4)
                    .due("hill(0, " + sort + ", 1, 5)", 0);
                Run one = new Run().fill(0, sort, five).due("hill(0, " + sort + ", 13, 1)", 1).dueOne(0, 4, 4, 4)
                    .due("hill(0, " + sort + ", 10, 2)", 1);
                one.dueOne(1, 2, 2, 2).due("count(0)", 2);
            }
            // Left out: of no kind, number or house, where one lives, and when all have come.
            Run left = new Run().fill(0, 2, 6, 0, 0, -1, 0, 0, 0, 10, 0, 0, -1, 0, 0, 0, 8, 0, 0, -1, 5, 9, 7, 0, 0, 7, 3, 3, 3, 0, 0,
                3);
            left.due("hill(0, 2, 0, 5)", 0).due("count(0)", 0).due("hill(0, 2, 15, 5)", 2).dueOne(0, 5, 9, 7).dueOne(1, 3, 3, 3)
                .due("count(0)", 2);
            Run full = Run.of("person(0, 0, 7)", "person(0, 0, 6)", "person(0, 0, 5)").fill(0, 0, 1, 1, 0, 1, 1, 1, 1, 1, 2, 1, 1, 3);
            full.due("hill(0, 0, 0, 4)", 2).dueOne(3, 1, 1, 0).dueOne(4, 1, 1, 1).due("count(0)", 5).due("hill(0, 0, 6, 2)", 0);
            // The longest row, to its very end.
            Run end = new Run().does("sheet(3, 1, 40)", "cell(3, 37, 5)", "cell(3, 38, 9)", "cell(3, 39, 7)")
                .due("hill(3, 1, 37, 1)", 1).dueOne(0, 5, 9, 7);
            end.due("hill(3, 1, 28, 4)", 1).dueOne(1, 0, 0, 0);
            new Run().does("sheet(0, 0, 0)").due("hill(0, 0, 0, 0)", 0).due("hill(0, 0, 0, 1)", -12);
        });
    }

    private static void hillRefused() {
        String sentence = "BAD: no such SHEET, sort, n; -13; -11;";
        String[] wrong = {"hill(-1, 2, 0, 1)", "hill(4, 2, 0, 1)", "hill(MIN, 2, 0, 1)", "hill(MAX, 2, 0, 1)", "hill(2, -1, 0, 1)",
            "hill(2, 3, 0, 1)", "hill(2, MIN, 0, 1)", "hill(2, MAX, 0, 1)", "hill(2, 2, 0, -1)", "hill(2, 2, 0, 6)",
            "hill(2, 2, 0, MIN)", "hill(2, 2, 0, MAX)", "hill(2, 0, 0, 6)", "hill(3, 3, 0, 1)", "hill(3, 2, 0, 6)",
            "hill(3, -1, 0, 1)"};
        Said.refuses(P30, sentence, -2, Villages::some, wrong);
        Said.refuses(P30, sentence, -2, Villages::none, wrong);
        Said.refuses(P30, sentence, -13, Villages::some, "hill(2, 0, 0, 1)", "hill(2, 1, 0, 1)", "hill(0, 1, 0, 1)",
            "hill(0, 2, 0, 1)", "hill(1, 0, 0, 1)", "hill(1, 2, 0, 1)", "hill(2, 0, -1, 1)", "hill(2, 0, 99, 0)");
        Said.refuses(P30, sentence, -11, Villages::some, "hill(3, 0, 0, 1)", "hill(3, 1, 0, 0)", "hill(3, 2, -1, 1)",
            "hill(3, 2, 99, 5)");
        Said.refuses(P30, sentence, -11, Villages::none, "hill(0, 0, 0, 0)", "hill(3, 2, 0, 5)");
    }

    private static void hillOutside() {
        String sentence = "-12: what stood ahead came.";
        Said.refuses(P30, sentence, -12, Villages::some, "hill(2, 2, -1, 1)", "hill(2, 2, 1, 1)", "hill(2, 2, 3, 1)",
            "hill(2, 2, 4, 1)", "hill(2, 2, MIN, 1)", "hill(2, 2, MAX, 1)", "hill(2, 2, MAX, 5)", "hill(2, 2, -3, 5)",
            "hill(2, 2, 2, 5)");
        Said.refuses(P30, sentence, -12, Villages::fivePeople, "hill(0, 0, 1, 1)", "hill(0, 0, 0, 2)", "hill(0, 0, -1, 5)");
        Said.says(P30, sentence, () -> {
            for (int n = 1; n <= 3; n++) {
                // Of one that is not whole nothing came, how far it may reach: here n numbers are too few.
                Run run = new Run().fill(0, 0, java.util.Arrays.copyOf(new int[] {1, 2, 3, 9, 9, 9, 2, 3, 4, 5, 6, 7}, 12 - n));
                run.due("hill(0, 0, 0, 4)", -12).due("count(0)", 2).dueOne(0, 1, 2, 3).dueOne(1, 2, 3, 4);
            }
            Run whole = new Run().fill(0, 0, 1, 2, 3, 9, 9, 9, 2, 3, 4, 5, 6, 7).due("hill(0, 0, 0, 4)", 3).due("count(0)", 3);
            whole.due("hill(0, 0, 0, 5)", -12).due("count(0)", 3).due("hill(0, 0, 9, 2)", -12).due("count(0)", 3);
            Run ahead = new Run().fill(0, 2, 1, 2, 3).due("hill(0, 2, 0, 5)", -12).due("count(0)", 1).dueOne(0, 1, 2, 3);
            ahead.due("hill(0, 2, -1, 1)", -12).due("count(0)", 1);
        });
    }

    private static void taken() {
        Said.says(P31, "One of PEOPLE taken for one of KIND k (0 .. 5), or one under that one (also by others between): the NUMBER.",
            () -> {
            // A neighbour all are; an ord is a widow, a keeper a baker; no other way.
            int[][] want = {{1, 0, 0, 0, 0, 0}, {1, 1, 0, 0, 0, 0}, {1, 0, 1, 0, 0, 0}, {1, 1, 0, 1, 0, 0}, {1, 0, 1, 0, 1, 0}, {1, 0,
                0, 0, 0, 1}};
            for (int kind = 0; kind < 6; kind++) {
                for (int number : new int[] {0, 9}) {
                    Run run = Run.of("person(" + (kind + 1) % 6 + ", 3, 5)", "person(" + kind + ", " + number + ", 2)");
                    for (int k = 0; k < 6; k++) {
                        run.due("taken(1, " + k + ")", want[kind][k] == 1 ? number : -13);
                    }
                    run.due("taken(1, -1)", -2).due("taken(1, 6)", -2).due("taken(2, 0)", -11).due("taken(-1, 0)", -11);
                }
            }
            Said.stays(5, Villages::some, "taken(0, 0)");
            Said.stays(4, Villages::some, "taken(2, 0)", "taken(2, 2)", "taken(2, 4)");
        });
        String sentence = "BAD: k; -11: none such; -13.";
        Said.refuses(P31, sentence, -2, Villages::some, "taken(0, -1)", "taken(0, 6)", "taken(0, MIN)", "taken(0, MAX)", "taken(4, 6)",
            "taken(-1, -1)");
        Said.refuses(P31, sentence, -2, Villages::none, "taken(0, -1)", "taken(0, 6)");
        Said.refuses(P31, sentence, -11, Villages::some, "taken(-1, 0)", "taken(4, 0)", "taken(MIN, 5)", "taken(MAX, 5)");
        Said.refuses(P31, sentence, -11, Villages::none, "taken(0, 0)", "taken(0, 5)");
        Said.refuses(P31, sentence, -13, Villages::some, "taken(0, 1)", "taken(0, 5)", "taken(1, 2)", "taken(1, 4)", "taken(2, 1)",
            "taken(3, 4)");
    }
}
