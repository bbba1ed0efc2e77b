/** The bounds of what the kinds do: CARRIES, SOFTENS, WRITES. */
final class BoundsOfKinds {
    private static final int NEIGHBOUR = 0, WIDOW = 1, BAKER = 2, ORD = 3, KEEPER = 4, TOP = 5;

    private BoundsOfKinds() {
    }

    static void hold() {
        neighbourCarries();
        widowCarries();
        bakerCarries();
        ordCarries();
        keeperCarries();
        topCarries();
        softens();
        ordSoftens();
        harsher();
        writes();
        writesBounds();
    }

    /** Whether one carries: asked, and truly, as letter 0 comes to 3, where one lives. */
    private static void carries(int kind, int number, String carries, boolean mine, int tone, int day, int want) {
        String text = "carries " + carries + ";softens 0;writes 40;";
        Run run = Villages.asked(kind, number, text, mine, tone, day).due("asks(0, 0, 0)", want);
        run.does("set(1, 0, 4)", mine ? "send(0, 2)" : "send(1, 2)", "set(3, 1, " + tone + ")", "set(0, 0, " + day + ")");
        run.due("told(1, 9)", 3).does("day()").due("told(1, 9)", want == 1 ? 2 : 3);
    }

    private static void neighbourCarries() {
        Said.says(Said.TERMS, "CARRIES (a LETTER, carries telling yes, if it isn't 0): NEIGHBOUR: if yes;", () -> {
            String[] yes = {"1", "-1", "2", "99", "100", "9999", "-99", "-100", "-9999", "4096*4096*128", "65*65-1"};
            String[] no = {"0", "-0", "1-1", "0*9999", "4096*4096*256"};
            for (String e : yes) {
                carries(NEIGHBOUR, 0, e, false, 0, 0, 1);
                carries(NEIGHBOUR, 9, e, true, 99, 9, 1);
            }
            for (String e : no) {
                carries(NEIGHBOUR, 0, e, false, 99, 0, 0);
                carries(NEIGHBOUR, 9, e, true, 0, 9, 0);
            }
        });
    }

    private static void widowCarries() {
        Said.says(Said.TERMS, "WIDOW: if yes, or TONE is 50 or more;", () -> {
            int[] tones = {0, 49, 50, 51, 99};
            for (int tone : tones) {
                carries(WIDOW, 0, "0", false, tone, 0, tone >= 50 ? 1 : 0);
                carries(WIDOW, 0, "0", true, tone, 0, tone >= 50 ? 1 : 0);
                carries(WIDOW, 0, "1", false, tone, 0, 1);
                carries(WIDOW, 0, "1", true, tone, 0, 1);
            }
        });
    }

    private static void bakerCarries() {
        Said.says(Said.TERMS, "BAKER: if yes, and it isn't FROM that one;", () -> {
            carries(BAKER, 0, "1", false, 0, 0, 1);
            carries(BAKER, 0, "1", true, 0, 0, 0);
            carries(BAKER, 0, "0", false, 99, 0, 0);
            carries(BAKER, 0, "0", true, 99, 0, 0);
            carries(BAKER, 9, "1", false, 99, 9, 1);
            carries(BAKER, 9, "1", true, 99, 9, 0);
        });
    }

    private static void ordCarries() {
        Said.says(Said.TERMS, "ORD: as a WIDOW, but not if DAY modulo 7 is NUMBER;", () -> {
            int[] days = {0, 1, 6, 7, 8, 13, 14, 994, 997, 998};
            int[] left = {0, 1, 6, 0, 1, 6, 0, 0, 3, 4};
            for (int i = 0; i < days.length; i++) {
                for (int number = 0; number <= 9; number++) {
                    carries(ORD, number, "1", number > 5, 0, days[i], number == left[i] ? 0 : 1);
                }
            }
            for (int tone : new int[] {0, 49, 50, 51, 99}) {
                carries(ORD, 3, "0", false, tone, 2, tone >= 50 ? 1 : 0);
                carries(ORD, 3, "0", true, tone, 10, 0);
            }
            Villages.asked(ORD, 5, "carries 1;softens 0;writes 0;", false, 0, 999).due("asks(0, 0, 0)", 0)
                .does("set(2, 0, 6)").due("asks(0, 0, 0)", 1);
        });
    }

    private static void keeperCarries() {
        Said.says(Said.TERMS, "KEEPER: never, if NUMBER is above 4, else as a BAKER;", () -> {
            for (int number = 0; number <= 9; number++) {
                carries(KEEPER, number, "1", false, 99, 0, number > 4 ? 0 : 1);
                carries(KEEPER, number, "1", true, 99, 0, 0);
                carries(KEEPER, number, "0", false, 99, 0, 0);
            }
        });
    }

    private static void topCarries() {
        Said.says(Said.TERMS, "TOP: always.", () -> {
            carries(TOP, 0, "0", false, 0, 0, 1);
            carries(TOP, 0, "0", true, 0, 0, 1);
            carries(TOP, 9, "0", true, 99, 9, 1);
            carries(TOP, 9, "1", true, 99, 2, 1);
        });
    }

    /** By how much one softens: asked, and truly, as far as the tone's bounds let it. */
    private static void softens(int kind, int number, String softens, int tone, int want) {
        String text = "carries 1;softens " + softens + ";writes 40;";
        Run run = Villages.asked(kind, number, text, false, tone, 8).due("asks(0, 0, 1)", want);
        if (kind == KEEPER && number > 4) {
            return;
        }
        run.does("set(1, 0, 4)", "send(1, 2)", "set(3, 1, " + tone + ")", "set(0, 0, 8)", "day()");
        run.due("told(1, 9)", 2).due("told(1, 3)", Math.max(0, Math.min(99, tone - want)));
    }

    private static void softens() {
        Said.says(Said.TERMS, "SOFTENS (by so much, softens telling v): NEIGHBOUR: v; WIDOW: twice a NEIGHBOUR's; BAKER: NUMBER more "
            + "than a NEIGHBOUR;", () -> {
            int[] all = {-99, -50, -1, 0, 1, 49, 50, 99};
            for (int v : all) {
                softens(NEIGHBOUR, 7, "" + v, 60, v);
                softens(WIDOW, 7, "" + v, 60, 2 * v);
                for (int number = 0; number <= 9; number++) {
                    softens(BAKER, number, "" + v, 60, v + number);
                }
            }
        });
    }

    private static void ordSoftens() {
        Said.says(Said.TERMS, "ORD: as a WIDOW, if TONE is above 20, else 0; KEEPER: 0 less a BAKER's; TOP: 0.", () -> {
            for (int tone : new int[] {0, 19, 20, 21, 22, 99}) {
                softens(ORD, 7, "9", tone, tone > 20 ? 18 : 0);
                softens(ORD, 7, "-99", tone, tone > 20 ? -198 : 0);
            }
            for (int number = 0; number <= 9; number++) {
                softens(KEEPER, number, "99", 60, -99 - number);
                softens(KEEPER, number, "0", 60, -number);
                softens(KEEPER, number, "-9", 60, 9 - number);
                softens(TOP, number, "99", 60, 0);
                softens(TOP, number, "-99", 60, 0);
            }
        });
    }

    private static void harsher() {
        Said.says(Said.TERMS, "(What is below 0 makes it harsher.)", () -> {
            for (int tone : new int[] {0, 98, 99}) {
                softens(NEIGHBOUR, 0, "-1", tone, -1);
                softens(NEIGHBOUR, 0, "0", tone, 0);
                softens(NEIGHBOUR, 0, "1", tone, 1);
            }
            Run run = Villages.asked(NEIGHBOUR, 0, "carries 1;softens -7;writes 40;", false, 40, 0);
            run.does("set(1, 0, 4)", "send(1, 2)").due("told(1, 3)", 40).does("day()").due("told(1, 3)", 47);
        });
    }

    private static void writes(int kind, int number, String writes, int want) {
        Run run = Villages.asked(kind, number, "carries 1;softens 1;writes " + writes + ";", true, 77, 6);
        run.due("writes(0)", want).due("send(0, 1)", 1).due("told(1, 3)", want);
    }

    private static void writes() {
        Said.says(Said.TERMS, "WRITES (in which TONE to another one, writes telling v): NEIGHBOUR: v; WIDOW: half (cut) of a "
            + "NEIGHBOUR's; BAKER: 99 less a NEIGHBOUR's; ORD: as a WIDOW; KEEPER: as a BAKER; TOP: 10 times NUMBER.", () -> {
            for (int v : new int[] {0, 1, 2, 49, 50, 51, 98, 99}) {
                writes(NEIGHBOUR, 9, "" + v, v);
                writes(WIDOW, 9, "" + v, v / 2);
                writes(BAKER, 9, "" + v, 99 - v);
                writes(ORD, 9, "" + v, v / 2);
                writes(KEEPER, 9, "" + v, 99 - v);
            }
            for (int number = 0; number <= 9; number++) {
                writes(TOP, number, "5", 10 * number);
            }
        });
    }

    private static void writesBounds() {
        Said.says(Said.TERMS, "(0 .. 99, else the bound: laid on what comes out, v being held as told below.)", () -> {
            String[] below = {"-1", "-2", "-9999", "0-4096*4096"};
            String[] above = {"100", "198", "9999", "4096*4096"};
            for (int i = 0; i < below.length; i++) {
                int[] least = {0, 0, 99, 0, 99, 30};
                int[] most = {99, 49, 0, 49, 0, 30};
                for (int kind = 0; kind < 6; kind++) {
                    writes(kind, 3, below[i], least[kind]);
                    writes(kind, 3, above[i], most[kind]);
                }
            }
        });
    }
}
