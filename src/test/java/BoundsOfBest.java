import java.util.ArrayList;
import java.util.List;

/** The bounds of what would be best: promises 15 to 19. */
final class BoundsOfBest {
    private static final String P15 = Said.promise(15), P16 = Said.promise(16), P17 = Said.promise(17), P18 = Said.promise(18),
        P19 = Said.promise(19);

    private BoundsOfBest() {
    }

    static void hold() {
        mistakeTerm();
        liveTerm();
        liveAllWays();
        liveDigits();
        hideTerm();
        tellTerm();
        meanTerm();
        mistake();
        live();
        hide();
        tell();
        tellRefused();
        mean();
    }

    private static void mistakeTerm() {
        Said.says(Said.TERMS, "MISTAKE (n 0 .. 40): the SLIP such that, were all LETTERS that aren't HOME now as many HOUSES above "
            + "where those they are TO LIVE, most would be HOME behind n DAYS; of like ones the least.", () -> {
            // Behind no days none more is home, by whichever slip; behind one all are, by none at all.
            Villages.eightLetters().due("mistake(0, 0)", 0).due("mistake(0, 1)", 2).due("mistake(1, 0)", 0).due("mistake(1, 1)", 8)
                .due("mistake(40, 0)", 0).due("mistake(40, 1)", 8).due("mistake(41, 0)", -2).due("mistake(-1, 0)", -2);
            new Run().due("mistake(0, 0)", 0).due("mistake(0, 1)", 0).due("mistake(40, 0)", 0).due("mistake(40, 1)", 0);
            // Nobody carries: by any slip but 0 all would be kept.
            Run kept = Run.of("person(4, 9, 0)", "person(4, 9, 1)", "set(1, 0, 7)", "send(0, 1)", "send(1, 0)")
                .due("mistake(0, 1)", 0);
            kept.due("mistake(1, 1)", 2).due("mistake(40, 0)", 0).due("mistake(40, 1)", 2).due("run(0, 40, 3)", 0);
            // All letters home: they stay there, by each slip.
            Run home = Run.of("person(0, 0, 0)", "person(0, 0, 7)", "set(1, 0, 0)", "send(0, 1)", "day()", "swap(0, 1)");
            home.due("mistake(0, 0)", 0).due("mistake(0, 1)", 1).due("mistake(40, 0)", 0).due("mistake(40, 1)", 1);
        });
    }

    private static void liveTerm() {
        Said.says(Said.TERMS, "LIVE (n 0 .. 20): of all ways in which PEOPLE could LIVE in those HOUSES in which any LIVE now that by "
            + "which most would be HOME behind n DAYS; of like ones the first by the HOUSE of one numbered 0, then of 1, ..;", () -> {
            // The letter to 0 is at 1, and carried from there on the day of the rule alone.
            Run run = Run.of("person(0, 0, 0)", "person(0, 0, 1)", "set(1, 0, 1)", "send(1, 0)")
                .rule("carries day=18;softens 9;writes 40;");
            run.due("live(0, 0)", 12).due("live(0, 1)", 0).due("live(1, 0)", 21).due("live(1, 1)", 1).due("live(19, 0)", 21);
            run.due("live(19, 1)", 1).due("live(20, 0)", 12).due("live(20, 1)", 1).due("live(21, 0)", -2).due("live(-1, 0)", -2);
            // Without letters all ways are like: the first by the house of 0, then of 1, ..
            Run like = Run.of("person(0, 0, 7)", "person(0, 0, 5)", "person(0, 0, 6)", "person(0, 0, 0)", "person(0, 0, 3)");
            like.due("live(0, 0)", 14678).due("live(20, 0)", 14678).due("live(20, 1)", 0);
            like.does("set(1, 0, 0)", "send(0, 4)").due("live(1, 0)", 16784).due("live(1, 1)", 1).due("live(0, 0)", 14678);
        });
    }

    /** The ways in which the first so many of five houses can be given out, the houses told as digits behind each other. */
    private static List<int[]> ways(int many) {
        int[] houses = {4, 0, 7, 2, 5};
        List<int[]> ways = new ArrayList<>();
        for (int way = 0; way < Math.pow(many, many); way++) {
            int[] taken = new int[many];
            int bits = 0;
            int left = way;
            for (int one = 0; one < many; one++) {
                taken[one] = houses[left % many];
                bits |= 1 << taken[one];
                left /= many;
            }
            if (Integer.bitCount(bits) == many) {
                ways.add(taken);
            }
        }
        return ways;
    }

    private static void liveAllWays() {
        Said.says(Said.TERMS, "of all ways in which PEOPLE could LIVE in those HOUSES in which any LIVE now that by which most would "
            + "be HOME", () -> {
            int[] houses = {4, 0, 7, 2, 5};
            for (int many = 2; many <= 5; many++) {
                Due.due("so many ways", ways(many).size(), new int[] {1, 1, 2, 6, 24, 120}[many]);
                for (int[] way : ways(many)) {
                    Run run = new Run();
                    long digits = 0;
                    for (int one = 0; one < many; one++) {
                        run.does("person(4, 9, " + houses[one] + ")");
                        digits = digits * 10 + way[one] + 1;
                    }
                    // Each letter is where whom it is to lives by this way alone, and all others keep it.
                    for (int one = 0; one < many; one++) {
                        run.does("set(1, 0, " + (way[one] - houses[one] + 8) % 8 + ")", "send(" + (one + 1) % many + ", " + one + ")");
                    }
                    run.due("live(1, 0)", digits).due("live(1, 1)", many);
                }
            }
        });
    }

    private static void liveDigits() {
        Said.says(Said.TERMS, "as digits (1 more than each HOUSE, that of 0 the highest; no PEOPLE: 0).", () -> {
            new Run().due("live(0, 0)", 0).due("live(20, 0)", 0).due("live(20, 1)", 0);
            Run.of("person(0, 0, 0)").due("live(0, 0)", 1).due("live(20, 0)", 1);
            Run.of("person(0, 0, 7)").due("live(0, 0)", 8).due("live(20, 0)", 8);
            Run.of("person(0, 0, 7)", "person(0, 0, 0)").due("live(20, 0)", 18);
            // The first of all ways and the last: each letter is where whom it is to would live by it alone.
            Run last = new Run();
            Run first = new Run();
            for (int one = 0; one < 5; one++) {
                last.does("person(4, 9, " + (3 + one) + ")");
                first.does("person(4, 9, " + (4 - one) + ")");
            }
            for (int one = 0; one < 5; one++) {
                last.does("set(1, 0, " + (7 - one - 3 - one + 8) % 8 + ")", "send(" + (one + 1) % 5 + ", " + one + ")");
                first.does("set(1, 0, " + (one - 4 + one + 8) % 8 + ")", "send(" + (one + 1) % 5 + ", " + one + ")");
            }
            last.due("live(0, 0)", 45678).due("live(1, 0)", 87654).due("live(1, 1)", 5).due("live(20, 0)", 87654);
            first.due("live(0, 0)", 12345).due("live(1, 0)", 12345).due("live(1, 1)", 5).due("live(20, 0)", 12345);
        });
    }

    /** All in a row: a letter of 4 to 0 goes from 3, by 2 and 1, to 0. */
    private static Run row() {
        return Run.of("person(0, 0, 0)", "person(0, 0, 1)", "person(5, 0, 2)", "person(0, 0, 3)", "person(0, 0, 6)", "set(1, 0, 3)",
            "send(4, 0)");
    }

    private static void hideTerm() {
        Said.says(Said.TERMS, "HIDE (a LETTER, one, n 0 .. 40): the set of fewest PEOPLE (bits) such that, did none of these CARRY "
            + "anything, that one would not have READ it behind n DAYS; of like ones the least as bits; NONE: none.", () -> {
            Run run = row().due("hide(0, 0, 0, 0)", 0).due("hide(0, 0, 3, 0)", 0).due("hide(0, 0, 4, 0)", 2)
                .due("hide(0, 0, 40, 0)", 2);
            run.due("hide(0, 0, 41, 0)", -2).due("hide(0, 0, -1, 0)", -2).due("hide(0, 0, 3, 1)", 0).due("hide(0, 0, 4, 1)", 1);
            run.due("hide(0, 1, 2, 0)", 0).due("hide(0, 1, 3, 0)", 4).due("hide(0, 2, 1, 0)", 0).due("hide(0, 2, 2, 0)", 8);
            run.due("hide(0, 3, 0, 0)", 0).due("hide(0, 3, 1, 0)", -1).due("hide(0, 3, 1, 1)", -1).due("hide(0, 3, 0, 1)", 0);
            run.due("hide(0, 4, 0, 0)", -1).due("hide(0, 4, 0, 1)", -1).due("hide(0, 4, 40, 0)", -1);
            // Kept by 3 till the day of the rule, so that 2 reads it on the fortieth day.
            run.rule("carries day=38;softens 9;writes 40;").due("hide(0, 2, 39, 0)", 0).due("hide(0, 2, 40, 0)", 8);
            // Only the last of five stands ahead of whom it is to.
            Run last = Run.of("person(0, 0, 6)", "person(0, 0, 0)", "person(0, 0, 5)", "person(0, 0, 4)", "person(0, 0, 3)",
                "set(1, 0, 3)");
            last.does("send(0, 1)").due("hide(0, 1, 3, 0)", 0).due("hide(0, 1, 4, 0)", 16).due("hide(0, 1, 4, 1)", 1);
            last.due("hide(0, 2, 40, 0)", 0).due("hide(0, 3, 40, 0)", 0).due("hide(0, 4, 1, 0)", -1);
            // Who has read it has, whatever comes then, and what is home is read by no other.
            Run home = row().does("day()", "day()", "day()", "day()").due("told(0, 9)", -1).due("hide(0, 0, 0, 0)", -1);
            home.due("hide(0, 1, 0, 0)", -1).due("hide(0, 3, 40, 1)", -1);
            Run other = Run.of("person(0, 0, 0)", "person(0, 0, 3)", "person(0, 0, 5)", "set(1, 0, 0)", "send(0, 1)", "day()");
            other.due("hide(0, 2, 40, 0)", 0).due("hide(0, 2, 40, 1)", 0).due("hide(0, 1, 0, 0)", -1);
        });
    }

    private static void tellTerm() {
        Said.says(Said.TERMS, "TELL (one, a set of PEOPLE, n 0 .. 20): to whom one should SEND a LETTER now so that just those of the "
            + "set have READ it behind n DAYS; of like ones the first; NONE.", () -> {
            Run run = Run.of("person(0, 0, 0)", "person(0, 0, 7)", "person(0, 0, 5)", "person(0, 0, 2)", "person(0, 0, 4)",
                "set(1, 0, 7)");
            run.due("tell(0, 1, 0)", 1).due("tell(1, 2, 0)", 0).due("tell(4, 16, 0)", 0).due("tell(0, 0, 0)", -1)
                .due("tell(0, 2, 0)", -1);
            run.due("tell(0, 31, 0)", -1).due("tell(0, 31, 7)", -1).due("tell(0, 31, 8)", 1).due("tell(0, 31, 20)", 1);
            run.due("tell(1, 31, 8)", 0).due("tell(0, 0, 20)", -1).due("tell(0, 30, 20)", -1).due("tell(0, 32, 0)", -2)
                .due("tell(0, -1, 0)", -2);
            // From 0 to 1 it is at 5, kept by 2 till the day of the rule, and 1 reads it on the twentieth day.
            Run late = Run.of("person(0, 0, 0)", "person(0, 0, 3)", "person(0, 0, 5)", "set(1, 0, 2)")
                .rule("carries day=17;softens 9;writes 40;");
            late.due("tell(0, 7, 19)", -1).due("tell(0, 7, 20)", 1).due("tell(0, 5, 19)", 1).due("tell(0, 5, 20)", 2);
            late.due("tell(0, 7, 21)", -2).due("tell(0, 7, -1)", -2).due("tell(0, 1, 0)", 1).due("tell(0, 1, 1)", 2)
                .due("tell(0, 8, 0)", -2);
            // One alone has nobody to send one to.
            Run.of("person(0, 0, 0)").due("tell(0, 1, 0)", -1).due("tell(0, 0, 20)", -1).due("tell(0, 2, 0)", -2);
        });
    }

    private static void meanTerm() {
        Said.says(Said.TERMS, "MEAN: TONE of all LETTERS, together, by how many there are.", () -> {
            Run run = Run.of("person(0, 0, 0)", "person(0, 0, 7)", "set(1, 0, 0)").due("mean(0)", NextHouseUp.NO);
            for (int letter = 0; letter < 8; letter++) {
                run.does("send(0, 1)").due("mean(0)", 40).due("mean(1)", 1);
            }
            for (int letter = 0; letter < 8; letter++) {
                run.does("set(3, " + letter + ", 99)");
            }
            run.due("mean(0)", 99).due("mean(1)", 1).does("set(3, 7, 98)").due("mean(0)", 791).due("mean(1)", 8);
            // Those that are home as well.
            run.does("day()").due("count(2)", 8).due("mean(0)", 791).due("mean(1)", 8);
        });
    }

    private static void mistake() {
        Said.says(P15, "MISTAKE (what 0), how many are HOME then (1).", () -> {
            Villages.some().due("mistake(0, 0)", 0).due("mistake(0, 1)", 0).due("mistake(1, 0)", 0).due("mistake(1, 1)", 4)
                .due("mistake(40, 1)", 4);
            Said.stays(Villages::some, "mistake(0, 0)", "mistake(1, 1)", "mistake(40, 0)");
            Said.stays(Villages::eightLetters, "mistake(40, 0)", "mistake(40, 1)");
        });
        String[] wrong = {"mistake(-1, 0)", "mistake(41, 0)", "mistake(MIN, 0)", "mistake(MAX, 0)", "mistake(0, -1)", "mistake(0, 2)",
            "mistake(0, MIN)", "mistake(0, MAX)", "mistake(41, 1)"};
        Said.refuses(P15, "BAD.", -2, Villages::some, wrong);
        Said.refuses(P15, "BAD.", -2, Villages::none, wrong);
    }

    private static void live() {
        Said.says(P16, "LIVE (what 0; digits), how many are HOME then (1).", () -> {
            Run run = Run.of("person(4, 9, 0)", "person(4, 9, 3)", "set(1, 0, 3)", "send(1, 0)");
            run.due("live(0, 0)", 14).due("live(0, 1)", 0).due("live(1, 0)", 41).due("live(1, 1)", 1).due("live(20, 1)", 1);
            run.due("told(0, 5)", 0).due("told(1, 5)", 3).dueLetter(0, 3, 59, 2);
            Said.stays(Villages::some, "live(0, 0)", "live(1, 1)", "live(20, 0)");
            Said.stays(Villages::eightLetters, "live(20, 0)", "live(20, 1)");
            Said.stays(Villages::fivePeople, "live(20, 0)");
        });
        String[] wrong = {"live(-1, 0)", "live(21, 0)", "live(MIN, 0)", "live(MAX, 0)", "live(0, -1)", "live(0, 2)", "live(0, MIN)",
            "live(0, MAX)", "live(21, 1)"};
        Said.refuses(P16, "BAD.", -2, Villages::some, wrong);
        Said.refuses(P16, "BAD.", -2, Villages::none, wrong);
    }

    private static void hide() {
        Said.says(P17, "HIDE (what 0; bits; NONE), how many (1; NONE).", () -> {
            Said.stays(2, BoundsOfBest::row, "hide(0, 0, 40, 0)", "hide(0, 0, 4, 0)");
            Said.stays(1, BoundsOfBest::row, "hide(0, 0, 40, 1)", "hide(0, 2, 40, 1)");
            Said.stays(0, BoundsOfBest::row, "hide(0, 0, 3, 0)", "hide(0, 0, 0, 1)", "hide(0, 3, 0, 0)");
            Said.stays(-1, BoundsOfBest::row, "hide(0, 4, 0, 0)", "hide(0, 3, 1, 1)");
            Said.stays(Villages::some, "hide(0, 1, 40, 0)", "hide(3, 0, 40, 1)");
        });
        String[] wrong = {"hide(-1, 0, 0, 0)", "hide(4, 0, 0, 0)", "hide(MIN, 0, 0, 0)", "hide(MAX, 0, 0, 0)", "hide(0, -1, 0, 0)",
            "hide(0, 4, 0, 0)", "hide(0, MIN, 0, 0)", "hide(0, MAX, 0, 0)", "hide(0, 0, -1, 0)", "hide(0, 0, 41, 0)",
            "hide(0, 0, MIN, 0)", "hide(0, 0, MAX, 0)", "hide(0, 0, 0, -1)", "hide(0, 0, 0, 2)", "hide(0, 0, 0, MIN)",
            "hide(0, 0, 0, MAX)"};
        Said.refuses(P17, "BAD.", -2, Villages::some, wrong);
        Said.refuses(P17, "BAD.", -2, Villages::none, "hide(0, 0, 0, 0)", "hide(0, 0, 0, 1)");
        Said.refuses(P17, "BAD.", -2, () -> Run.of("person(0, 0, 0)"), "hide(0, 0, 0, 0)");
    }

    private static void tell() {
        Said.says(P18, "TELL.", () -> {
            Said.stays(-1, Villages::some, "tell(0, 0, 0)", "tell(0, 0, 20)");
            Said.stays(1, Villages::some, "tell(0, 1, 0)");
            Said.stays(0, Villages::some, "tell(3, 8, 0)");
            Said.stays(Villages::some, "tell(0, 15, 20)", "tell(2, 5, 20)");
            // Seven letters leave room for one more, which does not come.
            Run seven = Run.of("person(0, 0, 0)", "person(0, 0, 3)", "set(1, 0, 0)");
            for (int letter = 0; letter < 7; letter++) {
                seven.does("send(0, 1)");
            }
            seven.due("tell(0, 1, 0)", 1).due("tell(0, 3, 1)", 1).due("count(1)", 7).due("send(0, 1)", 7).due("tell(0, 1, 0)", -4);
        });
    }

    private static void tellRefused() {
        String sentence = "BAD: none such, set, n; FULL: there is no room for a LETTER; NONE.";
        String[] wrong = {"tell(-1, 1, 0)", "tell(MIN, 1, 0)", "tell(MAX, 1, 0)", "tell(5, 1, 0)", "tell(0, -1, 0)", "tell(0, MIN, 0)",
            "tell(0, MAX, 0)", "tell(0, 32, 0)", "tell(0, 64, 0)", "tell(0, 1, -1)", "tell(0, 1, 21)", "tell(0, 1, MIN)",
            "tell(0, 1, MAX)"};
        Said.refuses(P18, sentence, -2, Villages::some, wrong);
        Said.refuses(P18, sentence, -2, Villages::some, "tell(4, 1, 0)", "tell(0, 16, 0)", "tell(0, 17, 0)");
        Said.refuses(P18, sentence, -2, Villages::fivePeople, wrong);
        Said.refuses(P18, sentence, -2, Villages::none, "tell(0, 0, 0)", "tell(0, 1, 0)");
        Said.refuses(P18, sentence, -2, Villages::eightLetters, wrong);
        Said.refuses(P18, sentence, -2, Villages::eightLetters, "tell(3, 1, 0)", "tell(0, 8, 0)");
        Said.refuses(P18, sentence, -4, Villages::eightLetters, "tell(0, 1, 0)", "tell(0, 0, 0)", "tell(2, 7, 20)");
        Said.refuses(P18, sentence, -1, Villages::fivePeople, "tell(0, 0, 0)", "tell(0, 30, 20)", "tell(0, 31, 0)", "tell(4, 1, 20)");
    }

    private static void mean() {
        Said.says(P19, "MEAN: part 0 above, 1 below the line, in lowest terms.", () -> {
            int[][] tones = {{0}, {99}, {0, 0}, {1, 0}, {1, 1}, {99, 99, 99}, {1, 1, 1, 0}, {2, 2, 1, 1}, {3, 3, 3, 3, 3, 3},
                {1, 0, 0, 0, 0, 0, 0, 0}, {5, 5, 5, 5, 0, 0, 0, 0}, {99, 99, 99, 99, 99, 99, 99, 97}};
            int[] above = {0, 99, 0, 1, 1, 99, 3, 3, 3, 1, 5, 395};
            int[] below = {1, 1, 1, 2, 1, 1, 4, 2, 1, 8, 2, 4};
            for (int i = 0; i < tones.length; i++) {
                Run run = Run.of("person(0, 0, 0)", "person(0, 0, 7)");
                for (int letter = 0; letter < tones[i].length; letter++) {
                    run.does("send(0, 1)", "set(3, " + letter + ", " + tones[i][letter] + ")");
                }
                run.due("mean(0)", above[i]).due("mean(1)", below[i]);
            }
        });
        String sentence = "NO: part, there are none.";
        Said.refuses(P19, sentence, NextHouseUp.NO, Villages::some, "mean(-1)", "mean(2)", "mean(MIN)", "mean(MAX)");
        Said.refuses(P19, sentence, NextHouseUp.NO, Villages::none, "mean(-1)", "mean(0)", "mean(1)", "mean(2)");
        Said.refuses(P19, sentence, NextHouseUp.NO, () -> Run.of("person(0, 0, 0)", "person(1, 0, 1)"), "mean(0)", "mean(1)");
    }
}
