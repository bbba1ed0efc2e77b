/** The bounds of the first of the terms, and of promises 1 to 7. */
final class BoundsOfPeople {
    private static final String P1 = Said.promise(1), P2 = Said.promise(2), P3 = Said.promise(3), P4 = Said.promise(4),
        P5 = Said.promise(5), P6 = Said.promise(6), P7 = Said.promise(7);

    private BoundsOfPeople() {
    }

    static void hold() {
        calls();
        houses();
        dayAndSlip();
        people();
        kinds();
        letters();
        refusals();
        newObject();
        set();
        setWrong();
        person();
        swap();
        told();
        asks();
        writes();
    }

    private static void calls() {
        Said.says(Said.ABOUT, "An object is used for at most 512 calls after it has been made", () -> {
            long want = Run.of("person(0, 0, 0)", "person(0, 0, 2)", "person(1, 0, 5)").asks("chance(-77, 20, 2, 0)");
            Run run = Run.of("person(0, 0, 0)", "person(0, 0, 2)", "person(1, 0, 5)");
            while (run.calls() < Run.MOST_CALLS - 1) {
                run.due("chance(-77, 20, 2, 0)", want);
            }
            run.due("chance(-77, 20, 2, 0)", want);
            Due.due("calls made", run.calls(), 512);
        });
    }

    private static void houses() {
        Said.says(Said.TERMS, "HOUSES 0 .. 7, 0 the lowest; below 0 is 7.", () -> {
            Run run = Run.of("set(1, 0, 3)");
            run.due("person(0, 0, -1)", -2).due("person(0, 0, 8)", -2);
            run.due("person(0, 0, 0)", 0).due("person(0, 0, 7)", 1).due("told(0, 5)", 0).due("told(1, 5)", 7);
            run.due("person(0, 0, 5)", 2);
            // Letter 0 goes from 1 to 0 and is read there; letter 1 goes from 0, below which is 7.
            run.does("set(1, 0, 2)").due("send(2, 1)", 0).due("told(0, 9)", 1);
            run.does("set(1, 0, 3)").due("send(0, 2)", 1).due("told(1, 9)", 0);
            run.due("day()", 0).due("told(0, 9)", 0).due("told(1, 9)", 7);
            run.due("day()", 0).due("told(0, 9)", 7).due("told(1, 9)", 6);
            run.due("day()", 1).due("told(0, 9)", -1).due("told(1, 9)", 5);
            Run empty = Run.of("person(0, 0, 4)", "person(0, 0, 6)", "set(1, 0, 2)", "send(0, 1)");
            empty.due("told(0, 9)", 0).due("day()", 0).due("told(0, 9)", 7);
        });
    }

    private static void dayAndSlip() {
        Said.says(Said.TERMS, "DAY (0 .. 999; 0 at first)", () -> {
            Run run = new Run().due("told(0, 0)", 0).due("set(0, 0, 0)", 0).due("set(0, 0, -1)", -2).due("told(0, 0)", 0);
            run.due("set(0, 0, 999)", 0).due("told(0, 0)", 999).due("set(0, 0, 1000)", -2).due("told(0, 0)", 999);
            run.due("set(0, 0, 1)", 999).due("set(0, 0, 998)", 1).due("told(0, 0)", 998);
        });
        Said.says(Said.TERMS, "SLIP (0 .. 7; 1 at first).", () -> {
            Run run = new Run().due("told(0, 1)", 1).due("set(1, 0, 0)", 1).due("set(1, 0, -1)", -2).due("told(0, 1)", 0);
            run.due("set(1, 0, 7)", 0).due("told(0, 1)", 7).due("set(1, 0, 8)", -2).due("told(0, 1)", 7);
            run.due("set(1, 0, 1)", 7).due("set(1, 0, 6)", 1).due("told(0, 1)", 6);
        });
    }

    private static void people() {
        Said.says(Said.TERMS, "PEOPLE (5 at most, numbered from 0)", () -> {
            Run run = new Run().due("count(0)", 0).due("told(0, 4)", -1000);
            for (int one = 0; one < 5; one++) {
                run.due("person(" + one + ", " + (9 - one) + ", " + (one + 2) + ")", one).due("count(0)", one + 1);
            }
            run.due("person(0, 0, 0)", -4).due("count(0)", 5);
            for (int one = 0; one < 5; one++) {
                run.dueOne(one, one, 9 - one, one + 2);
            }
            run.due("told(-1, 4)", -1000).due("told(5, 4)", -1000);
        });
        Said.says(Said.TERMS, "a NUMBER (0 .. 9), LIVE in a HOUSE (no two in one).", () -> {
            Run run = new Run().due("person(0, -1, 0)", -2).due("person(0, 10, 0)", -2).due("count(0)", 0);
            run.due("person(0, 0, 0)", 0).due("person(0, 9, 7)", 1).dueOne(0, 0, 0, 0).dueOne(1, 0, 9, 7);
            run.due("person(1, 1, 0)", -2).due("person(1, 1, 7)", -2).due("count(0)", 2);
            run.due("person(1, 1, 1)", 2).due("person(1, 1, 1)", -2).due("person(1, 1, 6)", 3).due("count(0)", 4);
            // Where nobody lives any more somebody can, and not where one has come to live.
            run.due("swap(0, 1)", 7).due("person(1, 1, 0)", -2).due("person(1, 1, 7)", -2);
        });
    }

    private static void kinds() {
        Said.says(Said.TERMS, "have a KIND: 0 NEIGHBOUR, 1 WIDOW under NEIGHBOUR, 2 BAKER under NEIGHBOUR, 3 ORD under WIDOW, 4 "
            + "KEEPER under BAKER, 5 TOP under NEIGHBOUR;", () -> {
            new Run().due("person(-1, 0, 0)", -2).due("person(6, 0, 0)", -2).due("count(0)", 0);
            String[] under = {"0", "01", "02", "013", "024", "05"};
            for (int kind = 0; kind < 6; kind++) {
                Run run = new Run().due("person(" + kind + ", 8, 0)", 0).due("told(0, 4)", kind);
                for (int k = 0; k < 6; k++) {
                    run.due("taken(0, " + k + ")", under[kind].indexOf('0' + k) >= 0 ? 8 : -13);
                }
            }
        });
    }

    private static void letters() {
        Said.says(Said.TERMS, "LETTERS (8 at most, numbered from 0): FROM one of PEOPLE, TO another one, AT a HOUSE, or HOME (-1), in "
            + "a TONE (0 .. 99), READ by some (bits).", () -> {
            Run run = Run.of("person(0, 0, 0)", "person(0, 0, 6)").due("count(1)", 0).due("told(0, 3)", -1000);
            for (int letter = 0; letter < 8; letter++) {
                int from = letter % 2;
                run.due("send(" + from + ", " + (1 - from) + ")", letter).due("count(1)", letter + 1);
                run.due("told(" + letter + ", 7)", from).due("told(" + letter + ", 8)", 1 - from);
                run.dueLetter(letter, from == 0 ? 7 : 1, 40, 1 << from);
            }
            run.due("send(0, 1)", -4).due("send(0, 0)", -2).due("count(1)", 8);
            run.due("told(-1, 7)", -1000).due("told(8, 7)", -1000);
            run.due("set(3, 7, -1)", -2).due("set(3, 7, 100)", -2).due("told(7, 3)", 40);
            run.due("set(3, 7, 0)", 40).due("set(3, 7, 99)", 0).due("told(7, 3)", 99);
            run.does("day()", "day()").dueLetter(0, -1, 40, 3).dueLetter(7, -1, 99, 3).due("count(1)", 8);
        });
        Said.says(Said.TERMS, "NONE is -1; NO, where a long is answered, -4611686018427387904.", () -> {
            Due.due("NONE", NextHouseUp.NONE, -1);
            Due.due("NO", NextHouseUp.NO, -(1L << 62));
            new Run().due("mean(0)", -4611686018427387904L).due("chance(0, 0, 0, 0)", -4611686018427387904L);
        });
        Said.says(Said.TERMS, "Quotients are cut toward 0.", () -> {
            int[][] halves = {{0, 0}, {1, 0}, {2, 1}, {3, 1}, {98, 49}, {99, 49}};
            for (int[] half : halves) {
                Villages.asked(1, 0, "carries 1;softens 1;writes " + half[0] + ";", true, 0, 0).due("writes(0)", half[1]);
            }
        });
    }

    /** Two reasons at once: the first of the call's words is answered, and nothing changes by it. */
    private static void refusals() {
        Due.due("BAD", NextHouseUp.BAD, -2);
        Due.due("STATE", NextHouseUp.STATE, -3);
        Due.due("FULL", NextHouseUp.FULL, -4);
        Said.says(Said.TERMS, "Refusals, the first that the call's words name; they change nothing: BAD (-2: a number is none such or "
            + "not as told), STATE (-3), FULL (-4);", () -> {
            Said.stays(-2, Villages::fivePeople, "person(6, 0, 0)", "person(0, 10, 0)", "person(0, 0, 8)", "person(0, 0, 7)");
            Said.stays(-4, Villages::fivePeople, "person(0, 0, 0)");
            Said.stays(-2, Villages::fullTape, "feed(-1)", "feed(256)");
            Said.stays(-4, Villages::fullTape, "feed(0)");
            Said.stays(-4, () -> Villages.sixTexts("carries ;"), "text()");
            Said.stays(-2, Villages::eightLetters, "send(0, 0)", "send(0, 3)", "tell(3, 0, 0)", "tell(0, 8, 0)", "tell(0, 0, 21)");
            Said.stays(-4, Villages::eightLetters, "send(0, 1)", "tell(0, 0, 0)");
            Said.stays(-3, Villages::lastDay, "day()", "back()");
        });
        Said.says(Said.TERMS, "the host's: -11 nothing where something is asked, -12 a place outside, -13 a thing of another sort or "
            + "KIND, -14 a size below 0.", () -> {
            Said.stays(-2, Villages::some, "tells(3, 4, 0, 0)", "tells(3, 0, 4, 0)", "tells(3, 0, 0, 7)", "sheet(3, 3, -1)",
                "sheet(4, 0, -1)", "cell(4, -1, 0)", "copy(4, 0, 3, -1, 1)", "copy(3, 0, 4, -1, 1)", "hill(0, 3, -1, 1)",
                "hill(3, 0, -1, 6)", "taken(4, 6)");
            Said.stays(-11, Villages::some, "tells(3, 0, 0, 0)", "cell(3, -1, 0)", "copy(3, -1, 0, 0, -1)", "copy(0, -1, 3, 0, 1)",
                "hill(3, 2, -1, 5)", "taken(4, 0)");
            Said.stays(-13, Villages::some, "copy(0, -1, 1, 0, 1)", "copy(0, 0, 2, 0, -1)", "hill(0, 1, -1, 5)", "taken(0, 5)");
            Said.stays(-12, Villages::some, "cell(0, 20, 0)", "copy(0, 0, 0, 0, -1)", "hill(0, 0, -1, 1)");
            Said.stays(-14, Villages::some, "sheet(0, 0, -1)");
        });
    }

    private static void newObject() {
        Said.says(P1, "Nobody, no LETTERS.", () -> {
            Run run = new Run().due("count(0)", 0).due("count(1)", 0).due("count(2)", 0).due("count(3)", 1).due("count(4)", 0);
            run.due("count(5)", 0).due("told(0, 2)", -1000).due("told(0, 3)", -1000).due("writes(0)", -2).due("comes(0)", -2);
            run.due("mistake(40, 1)", 0).due("live(20, 0)", 0).due("live(20, 1)", 0).due("mean(0)", NextHouseUp.NO);
            run.due("drawn(1, 40)", 0).due("image()", 0).due("back()", 0).due("day()", 0);
        });
    }

    private static void set() {
        Said.says(P2, "DAY (what 0; of does not matter), SLIP (1; nor), NUMBER (2) of one of PEOPLE, TONE (3) of a LETTER becomes v: "
            + "what it was.", () -> {
            Run run = Villages.some().due("set(0, MIN, 0)", 21).due("set(0, -1, 999)", 0).due("set(0, MAX, 5)", 999);
            run.due("set(1, MIN, 0)", 2).due("set(1, -1, 7)", 0).due("set(1, MAX, 5)", 7);
            run.due("told(0, 0)", 5).due("told(0, 1)", 5);
            run.due("set(2, 0, 0)", 5).due("set(2, 0, 9)", 0).due("set(2, 3, 0)", 6).due("set(2, 3, 9)", 0);
            run.due("told(0, 2)", 9).due("told(1, 2)", 2).due("told(2, 2)", 4).due("told(3, 2)", 9);
            long tone = run.asks("told(3, 3)");
            run.due("set(3, 0, 0)", 10).due("set(3, 0, 99)", 0).due("set(3, 3, 0)", tone).due("set(3, 3, 99)", 0);
            run.due("told(0, 3)", 99).due("told(1, 3)", 77).due("told(2, 3)", 89).due("told(3, 3)", 99);
            run.due("set(3, 0, 99)", 99);
        });
    }

    private static void setWrong() {
        Said.refuses(P2, "BAD.", -2, Villages::some, "set(-1, 0, 1)", "set(4, 0, 1)", "set(5, 0, 1)", "set(MIN, 0, 1)",
            "set(MAX, 0, 1)", "set(0, 0, -1)", "set(0, 0, 1000)", "set(0, 0, MIN)", "set(0, 0, MAX)", "set(1, 0, -1)", "set(1, 0, 8)",
            "set(1, 0, MIN)", "set(1, 0, MAX)", "set(2, 0, -1)", "set(2, 0, 10)", "set(2, 0, MIN)", "set(2, 0, MAX)", "set(2, -1, 1)",
            "set(2, 4, 1)", "set(2, MIN, 1)", "set(2, MAX, 1)", "set(3, 0, -1)", "set(3, 0, 100)", "set(3, 0, MIN)", "set(3, 0, MAX)",
            "set(3, -1, 1)", "set(3, 4, 1)", "set(3, MIN, 1)", "set(3, MAX, 1)");
        Said.refuses(P2, "BAD.", -2, Villages::none, "set(2, 0, 1)", "set(3, 0, 1)");
    }

    private static void person() {
        Said.says(P3, "One of PEOPLE: the number.", () -> {
            Run run = new Run().due("person(0, 0, 0)", 0).due("person(5, 9, 7)", 1).due("person(1, 1, 1)", 2);
            run.due("person(2, 2, 2)", 3).due("person(4, 4, 4)", 4).due("count(0)", 5);
            run.dueOne(0, 0, 0, 0).dueOne(1, 5, 9, 7).dueOne(2, 1, 1, 1).dueOne(3, 2, 2, 2).dueOne(4, 4, 4, 4);
        });
        Said.refuses(P3, "BAD (also: one LIVES there);", -2, Villages::some, "person(-1, 0, 1)", "person(6, 0, 1)",
            "person(MIN, 0, 1)", "person(MAX, 0, 1)", "person(0, -1, 1)", "person(0, 10, 1)", "person(0, MIN, 1)", "person(0, MAX, 1)",
            "person(0, 0, -1)", "person(0, 0, 8)", "person(0, 0, MIN)", "person(0, 0, MAX)", "person(0, 0, 0)", "person(0, 0, 2)",
            "person(0, 0, 4)", "person(0, 0, 6)");
        Said.refuses(P3, "FULL.", -4, Villages::fivePeople, "person(0, 0, 0)", "person(5, 9, 2)");
    }

    private static void swap() {
        Said.says(P4, "Two change HOUSES, truly: where the first one LIVES then.", () -> {
            Run run = Villages.some().due("swap(0, 3)", 6).due("swap(3, 1)", 0).due("swap(1, 2)", 4).due("swap(1, 2)", 2);
            run.dueOne(0, 0, 5, 6).dueOne(1, 3, 2, 2).dueOne(2, 4, 4, 4).dueOne(3, 5, 6, 0);
        });
        Said.refuses(P4, "BAD: no such two, one and the same.", -2, Villages::some, "swap(-1, 0)", "swap(0, -1)", "swap(4, 0)",
            "swap(0, 4)", "swap(4, 5)", "swap(MIN, 0)", "swap(0, MIN)", "swap(MAX, 0)", "swap(0, MAX)", "swap(0, 0)", "swap(3, 3)");
        Said.refuses(P4, "BAD: no such two, one and the same.", -2, Villages::none, "swap(0, 1)", "swap(0, 0)");
    }

    private static void told() {
        Said.says(P5, "What 0 .. 3 as of set(), 4 KIND, 5 where one LIVES, 6 KNOWS (bits) of one of PEOPLE; 7 FROM, 8 TO, 9 AT (NONE: "
            + "HOME), 10 READ (bits) of a LETTER.", () -> {
            Run run = Villages.some();
            for (int of : new int[] {0, -1, 4, Integer.MIN_VALUE, Integer.MAX_VALUE}) {
                run.due("told(" + of + ", 0)", 21).due("told(" + of + ", 1)", 2);
            }
            run.due("told(0, 2)", 5).due("told(3, 2)", 6).due("told(0, 3)", 10).due("told(1, 3)", 77);
            run.due("told(0, 4)", 0).due("told(3, 4)", 5).due("told(0, 5)", 2).due("told(3, 5)", 6);
            run.due("told(0, 6)", 1).due("told(1, 6)", 2).due("told(3, 6)", 8);
            // Letter 0 is at 4 by now, letter 1 at 6, letter 2 at 2, and letter 3, which 2 has read, at 3.
            run.due("told(2, 6)", 12).due("told(0, 7)", 0).due("told(3, 7)", 3).due("told(0, 8)", 1).due("told(3, 8)", 0);
            run.due("told(0, 9)", 4).due("told(1, 9)", 6).due("told(2, 9)", 2).due("told(3, 9)", 3);
            run.due("told(0, 10)", 1).due("told(1, 10)", 2).due("told(2, 10)", 4).due("told(3, 10)", 12);
            run.due("day()", 4).due("told(2, 9)", -1).due("told(2, 10)", 5).due("told(0, 6)", 5);
        });
        Said.refuses(P5, "-1000: none such.", -1000, Villages::some, "told(0, -1)", "told(0, 11)", "told(0, MIN)", "told(0, MAX)",
            "told(-1, 2)", "told(4, 2)", "told(-1, 3)", "told(4, 3)", "told(-1, 4)", "told(4, 4)", "told(-1, 5)", "told(4, 5)",
            "told(-1, 6)", "told(4, 6)", "told(-1, 7)", "told(4, 7)", "told(-1, 8)", "told(4, 8)", "told(-1, 9)", "told(4, 9)",
            "told(-1, 10)", "told(4, 10)", "told(MIN, 2)", "told(MAX, 2)", "told(MIN, 3)", "told(MAX, 3)", "told(MIN, 4)",
            "told(MAX, 4)", "told(MIN, 5)", "told(MAX, 5)", "told(MIN, 6)", "told(MAX, 6)", "told(MIN, 7)", "told(MAX, 7)",
            "told(MIN, 8)", "told(MAX, 8)", "told(MIN, 9)", "told(MAX, 9)", "told(MIN, 10)", "told(MAX, 10)", "told(MIN, -1)",
            "told(MAX, 11)");
        Said.refuses(P5, "-1000: none such.", -1000, Villages::none, "told(0, 2)", "told(0, 3)", "told(0, 4)", "told(0, 5)",
            "told(0, 6)", "told(0, 7)", "told(0, 8)", "told(0, 9)", "told(0, 10)");
    }

    private static void asks() {
        Said.says(P6, "Of one and a LETTER: whether one CARRIES it (what 0; 1, 0), by how much one SOFTENS it (1).", () -> {
            String text = "carries 77*mine;softens 7-house;writes 9;";
            // 0 is a top, as whom the letter is from; 2, a neighbour, lives in 7.
            Villages.asked(5, 0, text, true, 9, 0).due("asks(0, 0, 0)", 1).due("asks(1, 0, 0)", 0).due("asks(2, 0, 0)", 0)
                .due("asks(0, 0, 1)", 0).due("asks(1, 0, 1)", 1).due("asks(2, 0, 1)", 0);
            Villages.asked(0, 0, text, true, 9, 0).due("asks(0, 0, 0)", 1).due("asks(0, 0, 1)", 4);
            Villages.asked(1, 0, "carries 1;softens 99;writes 9;", true, 9, 0).due("asks(0, 0, 1)", 198);
            Run home = Villages.eightLetters().due("told(0, 9)", -1).due("asks(0, 0, 0)", 1).due("asks(0, 0, 1)", 5);
            home.due("asks(2, 7, 0)", 1).due("asks(2, 7, 1)", 7);
        });
        Said.refuses(P6, "-1000: none such.", -1000, Villages::some, "asks(-1, 0, 0)", "asks(4, 0, 0)", "asks(MIN, 0, 0)",
            "asks(MAX, 0, 0)", "asks(0, -1, 0)", "asks(0, 4, 0)", "asks(0, MIN, 0)", "asks(0, MAX, 0)", "asks(-1, 0, 1)",
            "asks(4, 0, 1)", "asks(0, -1, 1)", "asks(0, 4, 1)", "asks(0, 0, -1)", "asks(0, 0, 2)", "asks(0, 0, MIN)",
            "asks(0, 0, MAX)");
        Said.refuses(P6, "-1000: none such.", -1000, Villages::none, "asks(0, 0, 0)", "asks(0, 0, 1)");
        Said.refuses(P6, "-1000: none such.", -1000, () -> Run.of("person(0, 0, 0)"), "asks(0, 0, 0)", "asks(0, 0, 1)");
    }

    private static void writes() {
        Said.says(P7, "In which TONE one WRITES.", () -> {
            Run.of("person(0, 0, 0)").due("writes(0)", 40);
            Run run = Villages.some().due("writes(0)", 21).due("writes(1)", 10).due("writes(2)", 78).due("writes(3)", 60);
            run.does("set(0, 0, 0)").due("writes(0)", 0).due("writes(1)", 0).due("writes(2)", 99).due("writes(3)", 60);
            run.does("set(0, 0, 999)").due("writes(0)", 99).due("writes(1)", 49).due("writes(2)", 0).due("writes(3)", 60);
            Villages.eightLetters().due("writes(0)", 40).due("writes(1)", 20).due("writes(2)", 59);
        });
        Said.refuses(P7, "BAD.", -2, Villages::some, "writes(-1)", "writes(4)", "writes(5)", "writes(MIN)", "writes(MAX)");
        Said.refuses(P7, "BAD.", -2, Villages::none, "writes(0)");
    }
}
